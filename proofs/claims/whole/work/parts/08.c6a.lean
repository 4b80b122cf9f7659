set_option linter.unusedVariables false
def rmX7_moves : Room := { frames := 0, cells := 0, slots := 0, locals := 0 }
theorem hp_X7_moves : yX7_moves.cls ≠ "java/lang/invoke/MethodHandle" ∧ yX7_moves.cls ≠ "java/lang/invoke/VarHandle" ∧ (parseMethodDescriptor yX7_moves.desc).map (fun d => d.parameters.length) = some 4 := by decide +kernel
set_option maxHeartbeats 4000000 in
set_option maxRecDepth 100000 in
theorem c_X7_moves (l : Launch) (dC : Nat → ClassId) (dI : Nat → Nat → Nat) (cI cC cT : ClassId) (h0 h1 : Nat) (n0 n1 : Nat) (sz : Nat) (p1_a : (Nat → Int32)) (p3_a : (Nat → Int32)) (p2 : Int32) (p4 : Int32) (r : (Nat → Int32)) (hd : den_X7_moves n0 n1 p1_a p3_a p2 p4 = some r) : Met l yX7_moves wsX7_moves rmX7_moves (va_Pc [.ref h0, .int p2, .ref h1, .int p4] (preB sz (dC, dI) [(h0, .inl (cI, n0, .inl p1_a)), (h1, .inl (cI, n1, .inl p3_a))] [(cI, .int), (cC, .char), (cT, .object "CassetteTones$Tape")])) (va_Qv (S := Unit) (fun _ => True) (fun _ t => posB (dC, dI) [(h0, .inl (cI, n0, .inl p1_a)), (h1, .inl (cI, n1, .inl r))] [(cI, .int), (cC, .char), (cT, .object "CassetteTones$Tape")] (va_A [(h0, .inl (cI, n0, .inl p1_a)), (h1, .inl (cI, n1, .inl p3_a))] sz) t) (va_A [(h0, .inl (cI, n0, .inl p1_a)), (h1, .inl (cI, n1, .inl p3_a))] sz)) 0 0 (va_A [(h0, .inl (cI, n0, .inl p1_a)), (h1, .inl (cI, n1, .inl p3_a))] sz) := by
  refine x_met_v (by decide) rfl (Nat.le_of_ble_eq_true rfl) ?_
  intro p e s m args below meth c A Q H locs ls hx hb hml hown hts hK hN hA hP hD hS hl hend
  have hown : s.vm.findClass RX7 = some m.cls := hown
  have hl : lv_has ls 5 [(0, .ref h0), (1, .int p2), (2, .ref h1), (3, .int p4)] := hl
  unfold den_X7_moves at hd
  refine lv_iconst (v := 0) hx hb dX7_moves_0 (by decide) ?_
  refine lv_istore (lv' := [(4, .int (0 : Int32)), (0, .ref h0), (1, .int p2), (2, .ref h1), (3, .int p4)]) hx hb dX7_moves_1 hl (by decide) rfl (fun ls hl => ?_)
  obtain ⟨q1, hq1, hd⟩ := bnd_some hd
  have Kq1 : ∀ (H : Heap) (locs : List Loc) (ls : Array Slot), va_P (dC, dI) vwCl [(h0, .inl (cI, n0, .inl p1_a)), (h1, .inl (cI, n1, .inl q1))] H → va_D A [(h0, .inl (cI, n0, .inl p1_a)), (h1, .inl (cI, n1, .inl q1))] → va_S A s.heap H locs → lv_has ls 5 [] → W p l e rmX7_moves s m args below meth c H locs 0 0 Q (F0 m 29 ls []) := by
    intro H locs ls hP hD hS hl
    cases hd
    exact hend hP hD hS dX7_moves_29
  clear hd
  have KL5 : ∀ (fu : Nat) (y4_3 : Int32) (p3_a_3 : (Nat → Int32)) (hd : den_X7_moves_L3 p2 p4 n0 n1 p1_a fu y4_3 p3_a_3 = some q1) (H : Heap) (locs : List Loc) (ls : Array Slot), va_P (dC, dI) vwCl [(h0, .inl (cI, n0, .inl p1_a)), (h1, .inl (cI, n1, .inl p3_a_3))] H → va_D A [(h0, .inl (cI, n0, .inl p1_a)), (h1, .inl (cI, n1, .inl p3_a_3))] → va_S A s.heap H locs → lv_has ls 5 [(0, .ref h0), (1, .int p2), (2, .ref h1), (3, .int p4), (4, .int y4_3)] → W p l e rmX7_moves s m args below meth c H locs 0 0 Q (F0 m 3 ls []) := by
    intro fu
    induction fu with
    | zero => intro y4_3 p3_a_3 hd; exact no_some hd
    | succ fu ih =>
      intro y4_3 p3_a_3 hd H locs ls hP hD hS hl
      rw [den_X7_moves_L3] at hd
      refine lv_iload hx hb dX7_moves_3 (lv_at hl 4 rfl) ?_
      refine lv_sipush (v := 2628) hx hb dX7_moves_5 (by decide) ?_
      refine lv_icmp_ge (tgt := 29) hx hb dX7_moves_8 (by decide) (fun c2 => ?_) (fun c2 => ?_)
      · replace hd := ite_t c2 hd
        cases hd
        exact Kq1 _ _ _ hP hD hS (lv_sub hl [] rfl)
      · replace hd := ite_f c2 hd
        refine lv_aload_n hx hb dX7_moves_11 rfl (lv_at hl 2 rfl) ?_
        refine lv_iload_n hx hb dX7_moves_12 rfl (lv_at hl 3 rfl) ?_
        refine lv_iload hx hb dX7_moves_13 (lv_at hl 4 rfl) ?_
        refine lv_iadd hx hb dX7_moves_15 ?_
        refine lv_aload_n hx hb dX7_moves_16 rfl (lv_at hl 0 rfl) ?_
        refine lv_iload_n hx hb dX7_moves_17 rfl (lv_at hl 1 rfl) ?_
        refine lv_iload hx hb dX7_moves_18 (lv_at hl 4 rfl) ?_
        refine lv_iadd hx hb dX7_moves_20 ?_
        obtain ⟨g3, hd⟩ := gd_some hd
        refine x_iald (k := (p2 + y4_3).toNatClampNeg) hx hb hK hP 0 0 rfl rfl (inb_in g3) rfl dX7_moves_21 ?_
        obtain ⟨g4, hd⟩ := gd_some hd
        refine x_iast (k := (p4 + y4_3).toNatClampNeg) hx hb hK hP hD hS 1 0 rfl rfl (inb_in g4) rfl dX7_moves_22 (fun H locs hP hD hS => ?_)
        have hP : va_P (dC, dI) vwCl [(h0, .inl (cI, n0, .inl p1_a)), (h1, .inl (cI, n1, .inl (upd p3_a_3 (p4 + y4_3).toNatClampNeg (p1_a (p2 + y4_3).toNatClampNeg))))] H := hP
        have hD : va_D A [(h0, .inl (cI, n0, .inl p1_a)), (h1, .inl (cI, n1, .inl (upd p3_a_3 (p4 + y4_3).toNatClampNeg (p1_a (p2 + y4_3).toNatClampNeg))))] := hD
        refine lv_iinc (v := (y4_3 + (1 : Int32))) (lv' := [(4, .int (y4_3 + (1 : Int32))), (0, .ref h0), (1, .int p2), (2, .ref h1), (3, .int p4)]) hx hb dX7_moves_23 hl (k := 4) rfl (by first | rfl | decide) (by decide) rfl (fun ls hl => ?_)
        refine lv_goto (tgt := 3) hx hb dX7_moves_26 (by decide) ?_
        exact ih (y4_3 + (1 : Int32)) (upd p3_a_3 (p4 + y4_3).toNatClampNeg (p1_a (p2 + y4_3).toNatClampNeg)) hd _ _ _ hP hD hS (lv_sub hl [1, 2, 3, 4, 0] rfl)
  exact KL5 FU (0 : Int32) p3_a hq1 _ _ _ hP hD hS (lv_sub hl [1, 2, 3, 4, 0] rfl)
def rmX7_within : Room := { frames := 0, cells := 0, slots := 0, locals := 0 }
theorem hp_X7_within : yX7_within.cls ≠ "java/lang/invoke/MethodHandle" ∧ yX7_within.cls ≠ "java/lang/invoke/VarHandle" ∧ (parseMethodDescriptor yX7_within.desc).map (fun d => d.parameters.length) = some 3 := by decide +kernel
set_option maxHeartbeats 4000000 in
set_option maxRecDepth 100000 in
theorem c_X7_within (l : Launch) (dC : Nat → ClassId) (dI : Nat → Nat → Nat) (cI cC cT : ClassId) (sz : Nat) (p1 : Int32) (p2 : Int32) (p3 : Int32) (r : Int32) (hd : den_X7_within p1 p2 p3 = some r) : Met l yX7_within wsX7_within rmX7_within (va_Pc [.int p1, .int p2, .int p3] (preB sz (dC, dI) [] [(cI, .int), (cC, .char), (cT, .object "CassetteTones$Tape")])) (va_Qi (S := Unit) (fun v _ => v = r) (fun _ t => posB (dC, dI) [] [(cI, .int), (cC, .char), (cT, .object "CassetteTones$Tape")] (va_A [] sz) t) (va_A [] sz)) 0 0 (va_A [] sz) := by
  refine x_met_z (by decide) rfl (Nat.le_of_ble_eq_true rfl) ?_
  intro p e s m args below meth c A Q H locs ls hx hb hml hown hts hK hN hA hP hD hS hl hend
  have hown : s.vm.findClass RX7 = some m.cls := hown
  have hl : lv_has ls 3 [(0, .int p1), (1, .int p2), (2, .int p3)] := hl
  unfold den_X7_within at hd
  refine lv_iload_n hx hb dX7_within_0 rfl (lv_at hl 0 rfl) ?_
  refine lv_iload_n hx hb dX7_within_1 rfl (lv_at hl 1 rfl) ?_
  refine lv_icmp_lt (tgt := 14) hx hb dX7_within_2 (by decide) (fun c1 => ?_) (fun c1 => ?_)
  · replace hd := ite_t c1 hd
    refine lv_iconst (v := 0) hx hb dX7_within_14 (by decide) ?_
    cases hd
    exact hend (by rfl) (by rfl) hP hD hS dX7_within_15
  · replace hd := ite_f c1 hd
    refine lv_iload_n hx hb dX7_within_5 rfl (lv_at hl 0 rfl) ?_
    refine lv_iload_n hx hb dX7_within_6 rfl (lv_at hl 2 rfl) ?_
    refine lv_icmp_gt (tgt := 14) hx hb dX7_within_7 (by decide) (fun c2 => ?_) (fun c2 => ?_)
    · replace hd := ite_t c2 hd
      refine lv_iconst (v := 0) hx hb dX7_within_14 (by decide) ?_
      cases hd
      exact hend (by rfl) (by rfl) hP hD hS dX7_within_15
    · replace hd := ite_f c2 hd
      refine lv_iconst (v := 1) hx hb dX7_within_10 (by decide) ?_
      refine lv_goto (tgt := 15) hx hb dX7_within_11 (by decide) ?_
      cases hd
      exact hend (by rfl) (by rfl) hP hD hS dX7_within_15
def rmX7_size : Room := { frames := 0, cells := 0, slots := 0, locals := 0 }
theorem hp_X7_size : yX7_size.cls ≠ "java/lang/invoke/MethodHandle" ∧ yX7_size.cls ≠ "java/lang/invoke/VarHandle" ∧ (parseMethodDescriptor yX7_size.desc).map (fun d => d.parameters.length) = some 1 := by decide +kernel
set_option maxHeartbeats 4000000 in
set_option maxRecDepth 100000 in
theorem c_X7_size (l : Launch) (dC : Nat → ClassId) (dI : Nat → Nat → Nat) (cI cC cT : ClassId) (sz : Nat) (p1 : Int32) (r : Int32) (hd : den_X7_size p1 = some r) : Met l yX7_size wsX7_size rmX7_size (va_Pc [.int p1] (preB sz (dC, dI) [] [(cI, .int), (cC, .char), (cT, .object "CassetteTones$Tape")])) (va_Qi (S := Unit) (fun v _ => v = r) (fun _ t => posB (dC, dI) [] [(cI, .int), (cC, .char), (cT, .object "CassetteTones$Tape")] (va_A [] sz) t) (va_A [] sz)) 0 0 (va_A [] sz) := by
  refine x_met_i (by decide) rfl (Nat.le_of_ble_eq_true rfl) ?_
  intro p e s m args below meth c A Q H locs ls hx hb hml hown hts hK hN hA hP hD hS hl hend
  have hown : s.vm.findClass RX7 = some m.cls := hown
  have hl : lv_has ls 1 [(0, .int p1)] := hl
  unfold den_X7_size at hd
  refine lv_iload_n hx hb dX7_size_0 rfl (lv_at hl 0 rfl) ?_
  refine lv_if_ge (tgt := 9) hx hb dX7_size_1 (by decide) (fun c1 => ?_) (fun c1 => ?_)
  · replace hd := ite_t c1 hd
    refine lv_iload_n hx hb dX7_size_9 rfl (lv_at hl 0 rfl) ?_
    cases hd
    exact hend (by rfl) hP hD hS dX7_size_10
  · replace hd := ite_f c1 hd
    refine lv_iload_n hx hb dX7_size_4 rfl (lv_at hl 0 rfl) ?_
    refine lv_ineg hx hb dX7_size_5 ?_
    refine lv_goto (tgt := 10) hx hb dX7_size_6 (by decide) ?_
    cases hd
    exact hend (by rfl) hP hD hS dX7_size_10
def rmX7_record : Room := { frames := 1, cells := 0, slots := 0, locals := 24 }
theorem kX7_record_1 : (Cond.fieldLink RX7 31 "CassetteTonesModel" "recorded" "I") ∈ wsX7_record := List.mem_of_getElem? (i := 1) (by decide +kernel)
theorem kX7_record_2 : (Cond.fieldLink RX7 13 "CassetteTonesModel" "history" "[I") ∈ wsX7_record := List.mem_of_getElem? (i := 2) (by decide +kernel)
theorem kX7_record_3 : (Cond.fieldLink RX7 7 "CassetteTonesModel" "state" "[I") ∈ wsX7_record := List.mem_of_getElem? (i := 3) (by decide +kernel)
theorem inX7_record_X7 : ∀ w ∈ wsX70, w ∈ wsX7_record := by decide +kernel
theorem hp_X7_record : yX7_record.cls ≠ "java/lang/invoke/MethodHandle" ∧ yX7_record.cls ≠ "java/lang/invoke/VarHandle" ∧ (parseMethodDescriptor yX7_record.desc).map (fun d => d.parameters.length) = some 0 := by decide +kernel
theorem hv_X7_record : yX7_record.cls = RX7 ∧ yX7_record.cls ≠ "java/lang/invoke/MethodHandle" ∧ yX7_record.cls ≠ "java/lang/invoke/VarHandle" ∧ (parseMethodDescriptor yX7_record.desc).map (fun d => d.parameters.length) = some 0 := by decide +kernel
set_option maxHeartbeats 4000000 in
set_option maxRecDepth 100000 in
theorem c_X7_record (l : Launch) (dC : Nat → ClassId) (dI : Nat → Nat → Nat) (cI cC cT : ClassId) (h0 h1 h2 h3 h4 h5 h6 h7 : Nat) (sz : Nat) (v_state : (Nat → Int32)) (v_history : (Nat → Int32)) (v_recorded : Int32) (v_padLength : Int32) (v_at : Int32) (v_letter : Int32) (v_hasUnder : Int32) (v_numbersMany : Int32) (r : ((Nat → Int32) × Int32)) (hd : den_X7_record v_state v_history v_recorded = some r) : Met l yX7_record wsX7_record rmX7_record (va_Pc [.ref h0] (preB sz (dC, dI) [(h0, .inr (7, [.ref h1, .ref h2, .int v_recorded, .ref h3, .ref h4, .ref h5, .int v_padLength, .ref h6, .int v_at, .int v_letter, .int v_hasUnder, .ref h7, .int v_numbersMany])), (h1, .inl (cI, 2628, .inl v_state)), (h2, .inl (cI, 15768, .inl v_history))] [(cI, .int), (cC, .char), (cT, .object "CassetteTones$Tape")])) (va_Qv (S := Unit) (fun _ => True) (fun _ t => posB (dC, dI) [(h0, .inr (7, [.ref h1, .ref h2, .int r.2, .ref h3, .ref h4, .ref h5, .int v_padLength, .ref h6, .int v_at, .int v_letter, .int v_hasUnder, .ref h7, .int v_numbersMany])), (h1, .inl (cI, 2628, .inl v_state)), (h2, .inl (cI, 15768, .inl r.1))] [(cI, .int), (cC, .char), (cT, .object "CassetteTones$Tape")] (va_A [(h0, .inr (7, [.ref h1, .ref h2, .int v_recorded, .ref h3, .ref h4, .ref h5, .int v_padLength, .ref h6, .int v_at, .int v_letter, .int v_hasUnder, .ref h7, .int v_numbersMany])), (h1, .inl (cI, 2628, .inl v_state)), (h2, .inl (cI, 15768, .inl v_history))] sz) t) (va_A [(h0, .inr (7, [.ref h1, .ref h2, .int v_recorded, .ref h3, .ref h4, .ref h5, .int v_padLength, .ref h6, .int v_at, .int v_letter, .int v_hasUnder, .ref h7, .int v_numbersMany])), (h1, .inl (cI, 2628, .inl v_state)), (h2, .inl (cI, 15768, .inl v_history))] sz)) 0 0 (va_A [(h0, .inr (7, [.ref h1, .ref h2, .int v_recorded, .ref h3, .ref h4, .ref h5, .int v_padLength, .ref h6, .int v_at, .int v_letter, .int v_hasUnder, .ref h7, .int v_numbersMany])), (h1, .inl (cI, 2628, .inl v_state)), (h2, .inl (cI, 15768, .inl v_history))] sz) := by
  refine x_met_v (by decide) rfl (Nat.le_of_ble_eq_true rfl) ?_
  intro p e s m args below meth c A Q H locs ls hx hb hml hown hts hK hN hA hP hD hS hl hend
  have hown : s.vm.findClass RX7 = some m.cls := hown
  have hl : lv_has ls 2 [(0, .ref h0)] := hl
  unfold den_X7_record at hd
  refine lv_aload_n hx hb dX7_record_0 rfl (lv_at hl 0 rfl) ?_
  refine va_get (D := (dC, dI)) (ci := 7) (v := .int v_recorded) (C := RX7) (T := TX7) (N := 13) hx hb hts inX7_record_X7 hown hK hP 0 rfl rfl 2 (by decide) (hts _ kX7_record_1) (fun _ h9 => h9) rfl dX7_record_1 ?_
  refine lv_bipush (v := 6) hx hb dX7_record_4 (by decide) ?_
  obtain ⟨q1, hq1, hd⟩ := bnd_some hd
  have Kq1 : ∀ (H : Heap) (locs : List Loc) (ls : Array Slot), va_P (dC, dI) vwCl [(h0, .inr (7, [.ref h1, .ref h2, .int q1.2, .ref h3, .ref h4, .ref h5, .int v_padLength, .ref h6, .int v_at, .int v_letter, .int v_hasUnder, .ref h7, .int v_numbersMany])), (h1, .inl (cI, 2628, .inl v_state)), (h2, .inl (cI, 15768, .inl q1.1))] H → va_D A [(h0, .inr (7, [.ref h1, .ref h2, .int q1.2, .ref h3, .ref h4, .ref h5, .int v_padLength, .ref h6, .int v_at, .int v_letter, .int v_hasUnder, .ref h7, .int v_numbersMany])), (h1, .inl (cI, 2628, .inl v_state)), (h2, .inl (cI, 15768, .inl q1.1))] → va_S A s.heap H locs → lv_has ls 2 [(0, .ref h0)] → W p l e rmX7_record s m args below meth c H locs 0 0 Q (F0 m 50 ls []) := by
    intro H locs ls hP hD hS hl
    refine lv_aload_n hx hb dX7_record_50 rfl (lv_at hl 0 rfl) ?_
    refine va_get (D := (dC, dI)) (ci := 7) (v := .ref h1) (C := RX7) (T := TX7) (N := 13) hx hb hts inX7_record_X7 hown hK hP 0 rfl rfl 0 (by decide) (hts _ kX7_record_3) (fun _ h9 => h9) rfl dX7_record_51 ?_
    refine lv_iconst (v := 0) hx hb dX7_record_54 (by decide) ?_
    refine lv_aload_n hx hb dX7_record_55 rfl (lv_at hl 0 rfl) ?_
    refine va_get (D := (dC, dI)) (ci := 7) (v := .ref h2) (C := RX7) (T := TX7) (N := 13) hx hb hts inX7_record_X7 hown hK hP 0 rfl rfl 1 (by decide) (hts _ kX7_record_2) (fun _ h9 => h9) rfl dX7_record_56 ?_
    refine lv_aload_n hx hb dX7_record_59 rfl (lv_at hl 0 rfl) ?_
    refine va_get (D := (dC, dI)) (ci := 7) (v := .int q1.2) (C := RX7) (T := TX7) (N := 13) hx hb hts inX7_record_X7 hown hK hP 0 rfl rfl 2 (by decide) (hts _ kX7_record_1) (fun _ h9 => h9) rfl dX7_record_60 ?_
    refine lv_sipush (v := 2628) hx hb dX7_record_63 (by decide) ?_
    refine lv_imul hx hb dX7_record_66 ?_
    obtain ⟨q2, hq2, hd⟩ := bnd_some hd
    have hPc : va_P (dC, dI) vwCl [(h1, .inl (cI, 2628, .inl v_state)), (h2, .inl (cI, 15768, .inl q1.1))] _ := hP.sub [1, 2] rfl
    have hDc := hD.sub (ws' := [(h1, .inl (cI, 2628, .inl v_state)), (h2, .inl (cI, 15768, .inl q1.1))]) [1, 2] (by decide) rfl
    have hFc := va_free (wc := [(h1, .inl (cI, 2628, .inl v_state)), (h2, .inl (cI, 15768, .inl q1.1))]) hD hS hA [1, 2] rfl
    refine va_callv (va_runS (As := [.ref h1, .int (0 : Int32), .ref h2, .int (q1.2 * (2628 : Int32))]) (rest := []) ⟨hx, hb, hml, hown, hts⟩ (c_X7_moves l dC dI cI cC cT h1 h2 2628 15768 H.size v_state q1.1 (0 : Int32) (q1.2 * (2628 : Int32)) q2 hq2) (va_cwS 4 hts gX7_record_X7_moves rfl rfl rfl hp_X7_moves ⟨Nat.le_of_ble_eq_true rfl, Nat.le_of_ble_eq_true rfl⟩) ⟨preB_fb, fun U hU hW => preB_mk hU hW hPc hK hDc hN⟩ rfl rfl hl.1 rfl (lv_room (Nat.le_of_ble_eq_true rfl)) dX7_record_67 ⟨Nat.zero_le _, Nat.zero_le _⟩) hS (fun q _ h => hFc q h) hFc (fun u_ t H locs ht hvm hw hB hz1 hk1 hS => ?_)
    obtain ⟨hP, hD⟩ := x_join (ws' := [(h0, .inr (7, [.ref h1, .ref h2, .int q1.2, .ref h3, .ref h4, .ref h5, .int v_padLength, .ref h6, .int v_at, .int v_letter, .int v_hasUnder, .ref h7, .int v_numbersMany])), (h1, .inl (cI, 2628, .inl v_state)), (h2, .inl (cI, 15768, .inl q2))]) hP hD [1, 2] [0] rfl rfl (by decide) (by decide) hk1 hFc ht hB [0, 1, 2] (by decide) rfl
    clear hPc hDc hFc hk1 hB ht hz1 hvm
    refine lv_aload_n hx hb dX7_record_70 rfl (lv_at hl 0 rfl) ?_
    refine lv_dup hx hb dX7_record_71 rfl ?_
    refine va_get (D := (dC, dI)) (ci := 7) (v := .int q1.2) (C := RX7) (T := TX7) (N := 13) hx hb hts inX7_record_X7 hown hK hP 0 rfl rfl 2 (by decide) (hts _ kX7_record_1) (fun _ h9 => h9) rfl dX7_record_72 ?_
    refine lv_iconst (v := 1) hx hb dX7_record_75 (by decide) ?_
    refine lv_iadd hx hb dX7_record_76 ?_
    refine va_put (D := (dC, dI)) (ci := 7) (v := .int (q1.2 + (1 : Int32))) (ty := .int) (C := RX7) (T := TX7) (N := 13) hx hb hts inX7_record_X7 tyX7 tyX7_ok nmX7 hown hK hP hD hS 0 rfl rfl 2 (by decide) (hts _ kX7_record_1) (fun _ h9 => h9) rfl (by decide +kernel) rfl rfl (Nat.le_of_ble_eq_true rfl) dX7_record_77 (fun H locs hP hD hS => ?_)
    have hP : va_P (dC, dI) vwCl [(h0, .inr (7, [.ref h1, .ref h2, .int (q1.2 + (1 : Int32)), .ref h3, .ref h4, .ref h5, .int v_padLength, .ref h6, .int v_at, .int v_letter, .int v_hasUnder, .ref h7, .int v_numbersMany])), (h1, .inl (cI, 2628, .inl v_state)), (h2, .inl (cI, 15768, .inl q2))] H := hP
    have hD : va_D A [(h0, .inr (7, [.ref h1, .ref h2, .int (q1.2 + (1 : Int32)), .ref h3, .ref h4, .ref h5, .int v_padLength, .ref h6, .int v_at, .int v_letter, .int v_hasUnder, .ref h7, .int v_numbersMany])), (h1, .inl (cI, 2628, .inl v_state)), (h2, .inl (cI, 15768, .inl q2))] := hD
    cases hd
    exact hend hP hD hS dX7_record_80
  replace hd := hq1
  clear hq1
  refine lv_icmp_ne (tgt := 50) hx hb dX7_record_6 (by decide) (fun c3 => ?_) (fun c3 => ?_)
  · replace hd := ite_f c3 hd
    cases hd
    exact Kq1 _ _ _ hP hD hS (lv_sub hl [0] rfl)
  · replace hd := ite_t c3 hd
    refine lv_iconst (v := 0) hx hb dX7_record_9 (by decide) ?_
    refine lv_istore_n (lv' := [(1, .int (0 : Int32)), (0, .ref h0)]) hx hb dX7_record_10 rfl hl (by decide) rfl (fun ls hl => ?_)
    obtain ⟨q4, hq4, hd⟩ := bnd_some hd
    have Kq4 : ∀ (H : Heap) (locs : List Loc) (ls : Array Slot), va_P (dC, dI) vwCl [(h0, .inr (7, [.ref h1, .ref h2, .int v_recorded, .ref h3, .ref h4, .ref h5, .int v_padLength, .ref h6, .int v_at, .int v_letter, .int v_hasUnder, .ref h7, .int v_numbersMany])), (h1, .inl (cI, 2628, .inl v_state)), (h2, .inl (cI, 15768, .inl q4))] H → va_D A [(h0, .inr (7, [.ref h1, .ref h2, .int v_recorded, .ref h3, .ref h4, .ref h5, .int v_padLength, .ref h6, .int v_at, .int v_letter, .int v_hasUnder, .ref h7, .int v_numbersMany])), (h1, .inl (cI, 2628, .inl v_state)), (h2, .inl (cI, 15768, .inl q4))] → va_S A s.heap H locs → lv_has ls 2 [(0, .ref h0)] → W p l e rmX7_record s m args below meth c H locs 0 0 Q (F0 m 40 ls []) := by
      intro H locs ls hP hD hS hl
      refine lv_aload_n hx hb dX7_record_40 rfl (lv_at hl 0 rfl) ?_
      refine lv_dup hx hb dX7_record_41 rfl ?_
      refine va_get (D := (dC, dI)) (ci := 7) (v := .int v_recorded) (C := RX7) (T := TX7) (N := 13) hx hb hts inX7_record_X7 hown hK hP 0 rfl rfl 2 (by decide) (hts _ kX7_record_1) (fun _ h9 => h9) rfl dX7_record_42 ?_
      refine lv_iconst (v := 1) hx hb dX7_record_45 (by decide) ?_
      refine lv_isub hx hb dX7_record_46 ?_
      refine va_put (D := (dC, dI)) (ci := 7) (v := .int (v_recorded - (1 : Int32))) (ty := .int) (C := RX7) (T := TX7) (N := 13) hx hb hts inX7_record_X7 tyX7 tyX7_ok nmX7 hown hK hP hD hS 0 rfl rfl 2 (by decide) (hts _ kX7_record_1) (fun _ h9 => h9) rfl (by decide +kernel) rfl rfl (Nat.le_of_ble_eq_true rfl) dX7_record_47 (fun H locs hP hD hS => ?_)
      have hP : va_P (dC, dI) vwCl [(h0, .inr (7, [.ref h1, .ref h2, .int (v_recorded - (1 : Int32)), .ref h3, .ref h4, .ref h5, .int v_padLength, .ref h6, .int v_at, .int v_letter, .int v_hasUnder, .ref h7, .int v_numbersMany])), (h1, .inl (cI, 2628, .inl v_state)), (h2, .inl (cI, 15768, .inl q4))] H := hP
      have hD : va_D A [(h0, .inr (7, [.ref h1, .ref h2, .int (v_recorded - (1 : Int32)), .ref h3, .ref h4, .ref h5, .int v_padLength, .ref h6, .int v_at, .int v_letter, .int v_hasUnder, .ref h7, .int v_numbersMany])), (h1, .inl (cI, 2628, .inl v_state)), (h2, .inl (cI, 15768, .inl q4))] := hD
      cases hd
      exact Kq1 _ _ _ hP hD hS (lv_sub hl [0] rfl)
    clear hd
    have KL8 : ∀ (fu : Nat) (y1_11 : Int32) (v_history_11 : (Nat → Int32)) (hd : den_X7_record_L11 fu y1_11 v_history_11 = some q4) (H : Heap) (locs : List Loc) (ls : Array Slot), va_P (dC, dI) vwCl [(h0, .inr (7, [.ref h1, .ref h2, .int v_recorded, .ref h3, .ref h4, .ref h5, .int v_padLength, .ref h6, .int v_at, .int v_letter, .int v_hasUnder, .ref h7, .int v_numbersMany])), (h1, .inl (cI, 2628, .inl v_state)), (h2, .inl (cI, 15768, .inl v_history_11))] H → va_D A [(h0, .inr (7, [.ref h1, .ref h2, .int v_recorded, .ref h3, .ref h4, .ref h5, .int v_padLength, .ref h6, .int v_at, .int v_letter, .int v_hasUnder, .ref h7, .int v_numbersMany])), (h1, .inl (cI, 2628, .inl v_state)), (h2, .inl (cI, 15768, .inl v_history_11))] → va_S A s.heap H locs → lv_has ls 2 [(0, .ref h0), (1, .int y1_11)] → W p l e rmX7_record s m args below meth c H locs 0 0 Q (F0 m 11 ls []) := by
      intro fu
      induction fu with
      | zero => intro y1_11 v_history_11 hd; exact no_some hd
      | succ fu ih =>
        intro y1_11 v_history_11 hd H locs ls hP hD hS hl
        rw [den_X7_record_L11] at hd
        refine lv_iload_n hx hb dX7_record_11 rfl (lv_at hl 1 rfl) ?_
        refine lv_sipush (v := 13140) hx hb dX7_record_12 (by decide) ?_
        refine lv_icmp_ge (tgt := 40) hx hb dX7_record_15 (by decide) (fun c5 => ?_) (fun c5 => ?_)
        · replace hd := ite_t c5 hd
          cases hd
          exact Kq4 _ _ _ hP hD hS (lv_sub hl [0] rfl)
        · replace hd := ite_f c5 hd
          refine lv_aload_n hx hb dX7_record_18 rfl (lv_at hl 0 rfl) ?_
          refine va_get (D := (dC, dI)) (ci := 7) (v := .ref h2) (C := RX7) (T := TX7) (N := 13) hx hb hts inX7_record_X7 hown hK hP 0 rfl rfl 1 (by decide) (hts _ kX7_record_2) (fun _ h9 => h9) rfl dX7_record_19 ?_
          refine lv_iload_n hx hb dX7_record_22 rfl (lv_at hl 1 rfl) ?_
          refine lv_aload_n hx hb dX7_record_23 rfl (lv_at hl 0 rfl) ?_
          refine va_get (D := (dC, dI)) (ci := 7) (v := .ref h2) (C := RX7) (T := TX7) (N := 13) hx hb hts inX7_record_X7 hown hK hP 0 rfl rfl 1 (by decide) (hts _ kX7_record_2) (fun _ h9 => h9) rfl dX7_record_24 ?_
          refine lv_iload_n hx hb dX7_record_27 rfl (lv_at hl 1 rfl) ?_
          refine lv_sipush (v := 2628) hx hb dX7_record_28 (by decide) ?_
          refine lv_iadd hx hb dX7_record_31 ?_
          obtain ⟨g6, hd⟩ := gd_some hd
          refine x_iald (k := (y1_11 + (2628 : Int32)).toNatClampNeg) hx hb hK hP 2 0 rfl rfl (inb_in g6) rfl dX7_record_32 ?_
          obtain ⟨g7, hd⟩ := gd_some hd
          refine x_iast (k := y1_11.toNatClampNeg) hx hb hK hP hD hS 2 0 rfl rfl (inb_in g7) rfl dX7_record_33 (fun H locs hP hD hS => ?_)
          have hP : va_P (dC, dI) vwCl [(h0, .inr (7, [.ref h1, .ref h2, .int v_recorded, .ref h3, .ref h4, .ref h5, .int v_padLength, .ref h6, .int v_at, .int v_letter, .int v_hasUnder, .ref h7, .int v_numbersMany])), (h1, .inl (cI, 2628, .inl v_state)), (h2, .inl (cI, 15768, .inl (upd v_history_11 y1_11.toNatClampNeg (v_history_11 (y1_11 + (2628 : Int32)).toNatClampNeg))))] H := hP
          have hD : va_D A [(h0, .inr (7, [.ref h1, .ref h2, .int v_recorded, .ref h3, .ref h4, .ref h5, .int v_padLength, .ref h6, .int v_at, .int v_letter, .int v_hasUnder, .ref h7, .int v_numbersMany])), (h1, .inl (cI, 2628, .inl v_state)), (h2, .inl (cI, 15768, .inl (upd v_history_11 y1_11.toNatClampNeg (v_history_11 (y1_11 + (2628 : Int32)).toNatClampNeg))))] := hD
          refine lv_iinc (v := (y1_11 + (1 : Int32))) (lv' := [(1, .int (y1_11 + (1 : Int32))), (0, .ref h0)]) hx hb dX7_record_34 hl (k := 1) rfl (by first | rfl | decide) (by decide) rfl (fun ls hl => ?_)
          refine lv_goto (tgt := 11) hx hb dX7_record_37 (by decide) ?_
          exact ih (y1_11 + (1 : Int32)) (upd v_history_11 y1_11.toNatClampNeg (v_history_11 (y1_11 + (2628 : Int32)).toNatClampNeg)) hd _ _ _ hP hD hS (lv_sub hl [1, 0] rfl)
    exact KL8 FU (0 : Int32) v_history hq4 _ _ _ hP hD hS (lv_sub hl [1, 0] rfl)
def rmX7_isBlock : Room := { frames := 1, cells := 0, slots := 0, locals := 22 }
theorem kX7_isBlock_1 : (Cond.fieldLink RX7 7 "CassetteTonesModel" "state" "[I") ∈ wsX7_isBlock := List.mem_of_getElem? (i := 1) (by decide +kernel)
theorem inX7_isBlock_X7 : ∀ w ∈ wsX70, w ∈ wsX7_isBlock := by decide +kernel
theorem hp_X7_isBlock : yX7_isBlock.cls ≠ "java/lang/invoke/MethodHandle" ∧ yX7_isBlock.cls ≠ "java/lang/invoke/VarHandle" ∧ (parseMethodDescriptor yX7_isBlock.desc).map (fun d => d.parameters.length) = some 1 := by decide +kernel
theorem hv_X7_isBlock : yX7_isBlock.cls = RX7 ∧ yX7_isBlock.cls ≠ "java/lang/invoke/MethodHandle" ∧ yX7_isBlock.cls ≠ "java/lang/invoke/VarHandle" ∧ (parseMethodDescriptor yX7_isBlock.desc).map (fun d => d.parameters.length) = some 1 := by decide +kernel
set_option maxHeartbeats 4000000 in
set_option maxRecDepth 100000 in
theorem c_X7_isBlock (l : Launch) (dC : Nat → ClassId) (dI : Nat → Nat → Nat) (cI cC cT : ClassId) (h0 h1 h2 h3 h4 h5 h6 h7 : Nat) (sz : Nat) (v_state : (Nat → Int32)) (v_recorded : Int32) (v_padLength : Int32) (v_at : Int32) (v_letter : Int32) (v_hasUnder : Int32) (v_numbersMany : Int32) (p1 : Int32) (r : Int32) (hd : den_X7_isBlock v_state p1 = some r) : Met l yX7_isBlock wsX7_isBlock rmX7_isBlock (va_Pc [.ref h0, .int p1] (preB sz (dC, dI) [(h0, .inr (7, [.ref h1, .ref h2, .int v_recorded, .ref h3, .ref h4, .ref h5, .int v_padLength, .ref h6, .int v_at, .int v_letter, .int v_hasUnder, .ref h7, .int v_numbersMany])), (h1, .inl (cI, 2628, .inl v_state))] [(cI, .int), (cC, .char), (cT, .object "CassetteTones$Tape")])) (va_Qi (S := Unit) (fun v _ => v = r) (fun _ t => posB (dC, dI) [(h0, .inr (7, [.ref h1, .ref h2, .int v_recorded, .ref h3, .ref h4, .ref h5, .int v_padLength, .ref h6, .int v_at, .int v_letter, .int v_hasUnder, .ref h7, .int v_numbersMany])), (h1, .inl (cI, 2628, .inl v_state))] [(cI, .int), (cC, .char), (cT, .object "CassetteTones$Tape")] (va_A [(h0, .inr (7, [.ref h1, .ref h2, .int v_recorded, .ref h3, .ref h4, .ref h5, .int v_padLength, .ref h6, .int v_at, .int v_letter, .int v_hasUnder, .ref h7, .int v_numbersMany])), (h1, .inl (cI, 2628, .inl v_state))] sz) t) (va_A [(h0, .inr (7, [.ref h1, .ref h2, .int v_recorded, .ref h3, .ref h4, .ref h5, .int v_padLength, .ref h6, .int v_at, .int v_letter, .int v_hasUnder, .ref h7, .int v_numbersMany])), (h1, .inl (cI, 2628, .inl v_state))] sz)) 0 0 (va_A [(h0, .inr (7, [.ref h1, .ref h2, .int v_recorded, .ref h3, .ref h4, .ref h5, .int v_padLength, .ref h6, .int v_at, .int v_letter, .int v_hasUnder, .ref h7, .int v_numbersMany])), (h1, .inl (cI, 2628, .inl v_state))] sz) := by
  refine x_met_z (by decide) rfl (Nat.le_of_ble_eq_true rfl) ?_
  intro p e s m args below meth c A Q H locs ls hx hb hml hown hts hK hN hA hP hD hS hl hend
  have hown : s.vm.findClass RX7 = some m.cls := hown
  have hl : lv_has ls 2 [(0, .ref h0), (1, .int p1)] := hl
  unfold den_X7_isBlock at hd
  refine lv_iload_n hx hb dX7_isBlock_0 rfl (lv_at hl 1 rfl) ?_
  refine lv_iconst (v := 0) hx hb dX7_isBlock_1 (by decide) ?_
  refine lv_aload_n hx hb dX7_isBlock_2 rfl (lv_at hl 0 rfl) ?_
  refine va_get (D := (dC, dI)) (ci := 7) (v := .ref h1) (C := RX7) (T := TX7) (N := 13) hx hb hts inX7_isBlock_X7 hown hK hP 0 rfl rfl 0 (by decide) (hts _ kX7_isBlock_1) (fun _ h9 => h9) rfl dX7_isBlock_3 ?_
  refine lv_iconst (v := 3) hx hb dX7_isBlock_6 (by decide) ?_
  refine x_iald (k := 3) hx hb hK hP 1 0 rfl rfl (inb_in (by decide)) rfl dX7_isBlock_7 ?_
  refine lv_iconst (v := 1) hx hb dX7_isBlock_8 (by decide) ?_
  refine lv_isub hx hb dX7_isBlock_9 ?_
  obtain ⟨q1, hq1, hd⟩ := bnd_some hd
  have hPc : va_P (dC, dI) vwCl [] _ := hP.sub [] rfl
  have hDc := hD.sub (ws' := []) [] (by decide) rfl
  have hFc := va_free (wc := []) hD hS hA [] rfl
  refine va_calli (va_runS (As := [.int p1, .int (0 : Int32), .int ((v_state 3) - (1 : Int32))]) (rest := []) ⟨hx, hb, hml, hown, hts⟩ (c_X7_within l dC dI cI cC cT H.size p1 (0 : Int32) ((v_state 3) - (1 : Int32)) q1 hq1) (va_cwS 3 hts gX7_isBlock_X7_within rfl rfl rfl hp_X7_within ⟨Nat.le_of_ble_eq_true rfl, Nat.le_of_ble_eq_true rfl⟩) ⟨preB_fb, fun U hU hW => preB_mk hU hW hPc hK hDc hN⟩ rfl rfl hl.1 rfl (lv_room (Nat.le_of_ble_eq_true rfl)) dX7_isBlock_10 ⟨Nat.zero_le _, Nat.zero_le _⟩) hS (fun q _ h => hFc q h) hFc (fun r_ u_ t H locs ht hvm hw hB hz1 hk1 hS => ?_)
  have hw : r_ = q1 := hw
  have hw := hw.symm
  subst hw
  obtain ⟨hP, hD⟩ := x_join (ws' := [(h0, .inr (7, [.ref h1, .ref h2, .int v_recorded, .ref h3, .ref h4, .ref h5, .int v_padLength, .ref h6, .int v_at, .int v_letter, .int v_hasUnder, .ref h7, .int v_numbersMany])), (h1, .inl (cI, 2628, .inl v_state))]) hP hD [] [0, 1] rfl rfl (by decide) (by decide) hk1 hFc ht hB [0, 1] (by decide) rfl
  clear hPc hDc hFc hk1 hB ht hz1 hvm
  obtain ⟨g2, hd⟩ := gd_some hd
  cases hd
  exact hend (by rfl) (z_nar g2) hP hD hS dX7_isBlock_13
def rmX7_part : Room := { frames := 0, cells := 0, slots := 0, locals := 0 }
theorem kX7_part_1 : (Cond.fieldLink RX7 7 "CassetteTonesModel" "state" "[I") ∈ wsX7_part := List.mem_of_getElem? (i := 1) (by decide +kernel)
theorem inX7_part_X7 : ∀ w ∈ wsX70, w ∈ wsX7_part := by decide +kernel
theorem hp_X7_part : yX7_part.cls ≠ "java/lang/invoke/MethodHandle" ∧ yX7_part.cls ≠ "java/lang/invoke/VarHandle" ∧ (parseMethodDescriptor yX7_part.desc).map (fun d => d.parameters.length) = some 2 := by decide +kernel
theorem hv_X7_part : yX7_part.cls = RX7 ∧ yX7_part.cls ≠ "java/lang/invoke/MethodHandle" ∧ yX7_part.cls ≠ "java/lang/invoke/VarHandle" ∧ (parseMethodDescriptor yX7_part.desc).map (fun d => d.parameters.length) = some 2 := by decide +kernel
set_option maxHeartbeats 4000000 in
set_option maxRecDepth 100000 in
theorem c_X7_part (l : Launch) (dC : Nat → ClassId) (dI : Nat → Nat → Nat) (cI cC cT : ClassId) (h0 h1 h2 h3 h4 h5 h6 h7 : Nat) (sz : Nat) (v_state : (Nat → Int32)) (v_recorded : Int32) (v_padLength : Int32) (v_at : Int32) (v_letter : Int32) (v_hasUnder : Int32) (v_numbersMany : Int32) (p1 : Int32) (p2 : Int32) (r : Int32) (hd : den_X7_part v_state p1 p2 = some r) : Met l yX7_part wsX7_part rmX7_part (va_Pc [.ref h0, .int p1, .int p2] (preB sz (dC, dI) [(h0, .inr (7, [.ref h1, .ref h2, .int v_recorded, .ref h3, .ref h4, .ref h5, .int v_padLength, .ref h6, .int v_at, .int v_letter, .int v_hasUnder, .ref h7, .int v_numbersMany])), (h1, .inl (cI, 2628, .inl v_state))] [(cI, .int), (cC, .char), (cT, .object "CassetteTones$Tape")])) (va_Qi (S := Unit) (fun v _ => v = r) (fun _ t => posB (dC, dI) [(h0, .inr (7, [.ref h1, .ref h2, .int v_recorded, .ref h3, .ref h4, .ref h5, .int v_padLength, .ref h6, .int v_at, .int v_letter, .int v_hasUnder, .ref h7, .int v_numbersMany])), (h1, .inl (cI, 2628, .inl v_state))] [(cI, .int), (cC, .char), (cT, .object "CassetteTones$Tape")] (va_A [(h0, .inr (7, [.ref h1, .ref h2, .int v_recorded, .ref h3, .ref h4, .ref h5, .int v_padLength, .ref h6, .int v_at, .int v_letter, .int v_hasUnder, .ref h7, .int v_numbersMany])), (h1, .inl (cI, 2628, .inl v_state))] sz) t) (va_A [(h0, .inr (7, [.ref h1, .ref h2, .int v_recorded, .ref h3, .ref h4, .ref h5, .int v_padLength, .ref h6, .int v_at, .int v_letter, .int v_hasUnder, .ref h7, .int v_numbersMany])), (h1, .inl (cI, 2628, .inl v_state))] sz)) 0 0 (va_A [(h0, .inr (7, [.ref h1, .ref h2, .int v_recorded, .ref h3, .ref h4, .ref h5, .int v_padLength, .ref h6, .int v_at, .int v_letter, .int v_hasUnder, .ref h7, .int v_numbersMany])), (h1, .inl (cI, 2628, .inl v_state))] sz) := by
  refine x_met_i (by decide) rfl (Nat.le_of_ble_eq_true rfl) ?_
  intro p e s m args below meth c A Q H locs ls hx hb hml hown hts hK hN hA hP hD hS hl hend
  have hown : s.vm.findClass RX7 = some m.cls := hown
  have hl : lv_has ls 3 [(0, .ref h0), (1, .int p1), (2, .int p2)] := hl
  unfold den_X7_part at hd
  refine lv_aload_n hx hb dX7_part_0 rfl (lv_at hl 0 rfl) ?_
  refine va_get (D := (dC, dI)) (ci := 7) (v := .ref h1) (C := RX7) (T := TX7) (N := 13) hx hb hts inX7_part_X7 hown hK hP 0 rfl rfl 0 (by decide) (hts _ kX7_part_1) (fun _ h9 => h9) rfl dX7_part_1 ?_
  refine lv_iconst (v := 4) hx hb dX7_part_4 (by decide) ?_
  refine lv_bipush (v := 10) hx hb dX7_part_5 (by decide) ?_
  refine lv_iload_n hx hb dX7_part_7 rfl (lv_at hl 1 rfl) ?_
  refine lv_imul hx hb dX7_part_8 ?_
  refine lv_iadd hx hb dX7_part_9 ?_
  refine lv_iload_n hx hb dX7_part_10 rfl (lv_at hl 2 rfl) ?_
  refine lv_iadd hx hb dX7_part_11 ?_
  obtain ⟨g1, hd⟩ := gd_some hd
  refine x_iald (k := (((4 : Int32) + ((10 : Int32) * p1)) + p2).toNatClampNeg) hx hb hK hP 1 0 rfl rfl (inb_in g1) rfl dX7_part_12 ?_
  cases hd
  exact hend (by rfl) hP hD hS dX7_part_13
def rmX7_tellingSize : Room := { frames := 1, cells := 0, slots := 0, locals := 22 }
theorem hp_X7_tellingSize : yX7_tellingSize.cls ≠ "java/lang/invoke/MethodHandle" ∧ yX7_tellingSize.cls ≠ "java/lang/invoke/VarHandle" ∧ (parseMethodDescriptor yX7_tellingSize.desc).map (fun d => d.parameters.length) = some 1 := by decide +kernel
theorem hv_X7_tellingSize : yX7_tellingSize.cls = RX7 ∧ yX7_tellingSize.cls ≠ "java/lang/invoke/MethodHandle" ∧ yX7_tellingSize.cls ≠ "java/lang/invoke/VarHandle" ∧ (parseMethodDescriptor yX7_tellingSize.desc).map (fun d => d.parameters.length) = some 1 := by decide +kernel
set_option maxHeartbeats 4000000 in
set_option maxRecDepth 100000 in
theorem c_X7_tellingSize (l : Launch) (dC : Nat → ClassId) (dI : Nat → Nat → Nat) (cI cC cT : ClassId) (h0 h1 h2 h3 h4 h5 h6 h7 : Nat) (sz : Nat) (v_state : (Nat → Int32)) (v_recorded : Int32) (v_padLength : Int32) (v_at : Int32) (v_letter : Int32) (v_hasUnder : Int32) (v_numbersMany : Int32) (p1 : Int32) (r : Int32) (hd : den_X7_tellingSize v_state p1 = some r) : Met l yX7_tellingSize wsX7_tellingSize rmX7_tellingSize (va_Pc [.ref h0, .int p1] (preB sz (dC, dI) [(h0, .inr (7, [.ref h1, .ref h2, .int v_recorded, .ref h3, .ref h4, .ref h5, .int v_padLength, .ref h6, .int v_at, .int v_letter, .int v_hasUnder, .ref h7, .int v_numbersMany])), (h1, .inl (cI, 2628, .inl v_state))] [(cI, .int), (cC, .char), (cT, .object "CassetteTones$Tape")])) (va_Qi (S := Unit) (fun v _ => v = r) (fun _ t => posB (dC, dI) [(h0, .inr (7, [.ref h1, .ref h2, .int v_recorded, .ref h3, .ref h4, .ref h5, .int v_padLength, .ref h6, .int v_at, .int v_letter, .int v_hasUnder, .ref h7, .int v_numbersMany])), (h1, .inl (cI, 2628, .inl v_state))] [(cI, .int), (cC, .char), (cT, .object "CassetteTones$Tape")] (va_A [(h0, .inr (7, [.ref h1, .ref h2, .int v_recorded, .ref h3, .ref h4, .ref h5, .int v_padLength, .ref h6, .int v_at, .int v_letter, .int v_hasUnder, .ref h7, .int v_numbersMany])), (h1, .inl (cI, 2628, .inl v_state))] sz) t) (va_A [(h0, .inr (7, [.ref h1, .ref h2, .int v_recorded, .ref h3, .ref h4, .ref h5, .int v_padLength, .ref h6, .int v_at, .int v_letter, .int v_hasUnder, .ref h7, .int v_numbersMany])), (h1, .inl (cI, 2628, .inl v_state))] sz)) 0 0 (va_A [(h0, .inr (7, [.ref h1, .ref h2, .int v_recorded, .ref h3, .ref h4, .ref h5, .int v_padLength, .ref h6, .int v_at, .int v_letter, .int v_hasUnder, .ref h7, .int v_numbersMany])), (h1, .inl (cI, 2628, .inl v_state))] sz) := by
  refine x_met_i (by decide) rfl (Nat.le_of_ble_eq_true rfl) ?_
  intro p e s m args below meth c A Q H locs ls hx hb hml hown hts hK hN hA hP hD hS hl hend
  have hown : s.vm.findClass RX7 = some m.cls := hown
  have hl : lv_has ls 2 [(0, .ref h0), (1, .int p1)] := hl
  unfold den_X7_tellingSize at hd
  refine lv_iconst (v := 4) hx hb dX7_tellingSize_0 (by decide) ?_
  refine lv_bipush (v := 9) hx hb dX7_tellingSize_1 (by decide) ?_
  refine lv_aload_n hx hb dX7_tellingSize_3 rfl (lv_at hl 0 rfl) ?_
  refine lv_iload_n hx hb dX7_tellingSize_4 rfl (lv_at hl 1 rfl) ?_
  refine lv_iconst (v := 2) hx hb dX7_tellingSize_5 (by decide) ?_
  obtain ⟨q1, hq1, hd⟩ := bnd_some hd
  have hPc : va_P (dC, dI) vwCl [(h0, .inr (7, [.ref h1, .ref h2, .int v_recorded, .ref h3, .ref h4, .ref h5, .int v_padLength, .ref h6, .int v_at, .int v_letter, .int v_hasUnder, .ref h7, .int v_numbersMany])), (h1, .inl (cI, 2628, .inl v_state))] _ := hP.sub [0, 1] rfl
  have hDc := hD.sub (ws' := [(h0, .inr (7, [.ref h1, .ref h2, .int v_recorded, .ref h3, .ref h4, .ref h5, .int v_padLength, .ref h6, .int v_at, .int v_letter, .int v_hasUnder, .ref h7, .int v_numbersMany])), (h1, .inl (cI, 2628, .inl v_state))]) [0, 1] (by decide) rfl
  have hFc := va_free (wc := [(h0, .inr (7, [.ref h1, .ref h2, .int v_recorded, .ref h3, .ref h4, .ref h5, .int v_padLength, .ref h6, .int v_at, .int v_letter, .int v_hasUnder, .ref h7, .int v_numbersMany])), (h1, .inl (cI, 2628, .inl v_state))]) hD hS hA [0, 1] rfl
  refine va_calli (va_runV (As := [.int p1, .int (2 : Int32)]) (rest := [.int (9 : Int32), .int (4 : Int32)]) ⟨hx, hb, hml, hown, hts⟩ (c_X7_part l dC dI cI cC cT h0 h1 h2 h3 h4 h5 h6 h7 H.size v_state v_recorded v_padLength v_at v_letter v_hasUnder v_numbersMany p1 (2 : Int32) q1 hq1) (cwV 2 hts gX7_tellingSize_X7_part rfl rfl rfl hv_X7_part ⟨Nat.le_of_ble_eq_true rfl, Nat.le_of_ble_eq_true rfl⟩) ⟨preB_fb, va_recv hK hPc (ci := 7) (q0 := 0) rfl rfl, fun U hU hW => preB_mk hU hW hPc hK hDc hN⟩ rfl rfl hl.1 rfl (lv_room (Nat.le_of_ble_eq_true rfl)) dX7_tellingSize_6 ⟨Nat.zero_le _, Nat.zero_le _⟩) hS (fun q _ h => hFc q h) hFc (fun r_ u_ t H locs ht hvm hw hB hz1 hk1 hS => ?_)
  have hw : r_ = q1 := hw
  have hw := hw.symm
  subst hw
  obtain ⟨hP, hD⟩ := x_join (ws' := [(h0, .inr (7, [.ref h1, .ref h2, .int v_recorded, .ref h3, .ref h4, .ref h5, .int v_padLength, .ref h6, .int v_at, .int v_letter, .int v_hasUnder, .ref h7, .int v_numbersMany])), (h1, .inl (cI, 2628, .inl v_state))]) hP hD [0, 1] [] rfl rfl (by decide) (by decide) hk1 hFc ht hB [0, 1] (by decide) rfl
  clear hPc hDc hFc hk1 hB ht hz1 hvm
  refine lv_iconst (v := 1) hx hb dX7_tellingSize_9 (by decide) ?_
  refine lv_iadd hx hb dX7_tellingSize_10 ?_
  refine lv_imul hx hb dX7_tellingSize_11 ?_
  refine lv_iadd hx hb dX7_tellingSize_12 ?_
  cases hd
  exact hend (by rfl) hP hD hS dX7_tellingSize_13
def rmX7_cellsOf : Room := { frames := 2, cells := 0, slots := 0, locals := 43 }
theorem hp_X7_cellsOf : yX7_cellsOf.cls ≠ "java/lang/invoke/MethodHandle" ∧ yX7_cellsOf.cls ≠ "java/lang/invoke/VarHandle" ∧ (parseMethodDescriptor yX7_cellsOf.desc).map (fun d => d.parameters.length) = some 1 := by decide +kernel
theorem hv_X7_cellsOf : yX7_cellsOf.cls = RX7 ∧ yX7_cellsOf.cls ≠ "java/lang/invoke/MethodHandle" ∧ yX7_cellsOf.cls ≠ "java/lang/invoke/VarHandle" ∧ (parseMethodDescriptor yX7_cellsOf.desc).map (fun d => d.parameters.length) = some 1 := by decide +kernel
set_option maxHeartbeats 4000000 in
set_option maxRecDepth 100000 in
theorem c_X7_cellsOf (l : Launch) (dC : Nat → ClassId) (dI : Nat → Nat → Nat) (cI cC cT : ClassId) (h0 h1 h2 h3 h4 h5 h6 h7 : Nat) (sz : Nat) (v_state : (Nat → Int32)) (v_recorded : Int32) (v_padLength : Int32) (v_at : Int32) (v_letter : Int32) (v_hasUnder : Int32) (v_numbersMany : Int32) (p1 : Int32) (r : Int32) (hd : den_X7_cellsOf v_state p1 = some r) : Met l yX7_cellsOf wsX7_cellsOf rmX7_cellsOf (va_Pc [.ref h0, .int p1] (preB sz (dC, dI) [(h0, .inr (7, [.ref h1, .ref h2, .int v_recorded, .ref h3, .ref h4, .ref h5, .int v_padLength, .ref h6, .int v_at, .int v_letter, .int v_hasUnder, .ref h7, .int v_numbersMany])), (h1, .inl (cI, 2628, .inl v_state))] [(cI, .int), (cC, .char), (cT, .object "CassetteTones$Tape")])) (va_Qi (S := Unit) (fun v _ => v = r) (fun _ t => posB (dC, dI) [(h0, .inr (7, [.ref h1, .ref h2, .int v_recorded, .ref h3, .ref h4, .ref h5, .int v_padLength, .ref h6, .int v_at, .int v_letter, .int v_hasUnder, .ref h7, .int v_numbersMany])), (h1, .inl (cI, 2628, .inl v_state))] [(cI, .int), (cC, .char), (cT, .object "CassetteTones$Tape")] (va_A [(h0, .inr (7, [.ref h1, .ref h2, .int v_recorded, .ref h3, .ref h4, .ref h5, .int v_padLength, .ref h6, .int v_at, .int v_letter, .int v_hasUnder, .ref h7, .int v_numbersMany])), (h1, .inl (cI, 2628, .inl v_state))] sz) t) (va_A [(h0, .inr (7, [.ref h1, .ref h2, .int v_recorded, .ref h3, .ref h4, .ref h5, .int v_padLength, .ref h6, .int v_at, .int v_letter, .int v_hasUnder, .ref h7, .int v_numbersMany])), (h1, .inl (cI, 2628, .inl v_state))] sz)) 0 0 (va_A [(h0, .inr (7, [.ref h1, .ref h2, .int v_recorded, .ref h3, .ref h4, .ref h5, .int v_padLength, .ref h6, .int v_at, .int v_letter, .int v_hasUnder, .ref h7, .int v_numbersMany])), (h1, .inl (cI, 2628, .inl v_state))] sz) := by
  refine x_met_i (by decide) rfl (Nat.le_of_ble_eq_true rfl) ?_
  intro p e s m args below meth c A Q H locs ls hx hb hml hown hts hK hN hA hP hD hS hl hend
  have hown : s.vm.findClass RX7 = some m.cls := hown
  have hl : lv_has ls 2 [(0, .ref h0), (1, .int p1)] := hl
  unfold den_X7_cellsOf at hd
  refine lv_iconst (v := 2) hx hb dX7_cellsOf_0 (by decide) ?_
  refine lv_aload_n hx hb dX7_cellsOf_1 rfl (lv_at hl 0 rfl) ?_
  refine lv_iload_n hx hb dX7_cellsOf_2 rfl (lv_at hl 1 rfl) ?_
  obtain ⟨q1, hq1, hd⟩ := bnd_some hd
  have hPc : va_P (dC, dI) vwCl [(h0, .inr (7, [.ref h1, .ref h2, .int v_recorded, .ref h3, .ref h4, .ref h5, .int v_padLength, .ref h6, .int v_at, .int v_letter, .int v_hasUnder, .ref h7, .int v_numbersMany])), (h1, .inl (cI, 2628, .inl v_state))] _ := hP.sub [0, 1] rfl
  have hDc := hD.sub (ws' := [(h0, .inr (7, [.ref h1, .ref h2, .int v_recorded, .ref h3, .ref h4, .ref h5, .int v_padLength, .ref h6, .int v_at, .int v_letter, .int v_hasUnder, .ref h7, .int v_numbersMany])), (h1, .inl (cI, 2628, .inl v_state))]) [0, 1] (by decide) rfl
  have hFc := va_free (wc := [(h0, .inr (7, [.ref h1, .ref h2, .int v_recorded, .ref h3, .ref h4, .ref h5, .int v_padLength, .ref h6, .int v_at, .int v_letter, .int v_hasUnder, .ref h7, .int v_numbersMany])), (h1, .inl (cI, 2628, .inl v_state))]) hD hS hA [0, 1] rfl
  refine va_calli (va_runV (As := [.int p1]) (rest := [.int (2 : Int32)]) ⟨hx, hb, hml, hown, hts⟩ (c_X7_tellingSize l dC dI cI cC cT h0 h1 h2 h3 h4 h5 h6 h7 H.size v_state v_recorded v_padLength v_at v_letter v_hasUnder v_numbersMany p1 q1 hq1) (cwV 1 hts gX7_cellsOf_X7_tellingSize rfl rfl rfl hv_X7_tellingSize ⟨Nat.le_of_ble_eq_true rfl, Nat.le_of_ble_eq_true rfl⟩) ⟨preB_fb, va_recv hK hPc (ci := 7) (q0 := 0) rfl rfl, fun U hU hW => preB_mk hU hW hPc hK hDc hN⟩ rfl rfl hl.1 rfl (lv_room (Nat.le_of_ble_eq_true rfl)) dX7_cellsOf_3 ⟨Nat.zero_le _, Nat.zero_le _⟩) hS (fun q _ h => hFc q h) hFc (fun r_ u_ t H locs ht hvm hw hB hz1 hk1 hS => ?_)
  have hw : r_ = q1 := hw
  have hw := hw.symm
  subst hw
  obtain ⟨hP, hD⟩ := x_join (ws' := [(h0, .inr (7, [.ref h1, .ref h2, .int v_recorded, .ref h3, .ref h4, .ref h5, .int v_padLength, .ref h6, .int v_at, .int v_letter, .int v_hasUnder, .ref h7, .int v_numbersMany])), (h1, .inl (cI, 2628, .inl v_state))]) hP hD [0, 1] [] rfl rfl (by decide) (by decide) hk1 hFc ht hB [0, 1] (by decide) rfl
  clear hPc hDc hFc hk1 hB ht hz1 hvm
  refine lv_imul hx hb dX7_cellsOf_6 ?_
  refine lv_iconst (v := 2) hx hb dX7_cellsOf_7 (by decide) ?_
  refine lv_iadd hx hb dX7_cellsOf_8 ?_
  cases hd
  exact hend (by rfl) hP hD hS dX7_cellsOf_9
def rmX7_firstOf : Room := { frames := 3, cells := 0, slots := 0, locals := 64 }
theorem hp_X7_firstOf : yX7_firstOf.cls ≠ "java/lang/invoke/MethodHandle" ∧ yX7_firstOf.cls ≠ "java/lang/invoke/VarHandle" ∧ (parseMethodDescriptor yX7_firstOf.desc).map (fun d => d.parameters.length) = some 1 := by decide +kernel
theorem hv_X7_firstOf : yX7_firstOf.cls = RX7 ∧ yX7_firstOf.cls ≠ "java/lang/invoke/MethodHandle" ∧ yX7_firstOf.cls ≠ "java/lang/invoke/VarHandle" ∧ (parseMethodDescriptor yX7_firstOf.desc).map (fun d => d.parameters.length) = some 1 := by decide +kernel
set_option maxHeartbeats 4000000 in
set_option maxRecDepth 100000 in
theorem c_X7_firstOf (l : Launch) (dC : Nat → ClassId) (dI : Nat → Nat → Nat) (cI cC cT : ClassId) (h0 h1 h2 h3 h4 h5 h6 h7 : Nat) (sz : Nat) (v_state : (Nat → Int32)) (v_recorded : Int32) (v_padLength : Int32) (v_at : Int32) (v_letter : Int32) (v_hasUnder : Int32) (v_numbersMany : Int32) (p1 : Int32) (r : Int32) (hd : den_X7_firstOf v_state p1 = some r) : Met l yX7_firstOf wsX7_firstOf rmX7_firstOf (va_Pc [.ref h0, .int p1] (preB sz (dC, dI) [(h0, .inr (7, [.ref h1, .ref h2, .int v_recorded, .ref h3, .ref h4, .ref h5, .int v_padLength, .ref h6, .int v_at, .int v_letter, .int v_hasUnder, .ref h7, .int v_numbersMany])), (h1, .inl (cI, 2628, .inl v_state))] [(cI, .int), (cC, .char), (cT, .object "CassetteTones$Tape")])) (va_Qi (S := Unit) (fun v _ => v = r) (fun _ t => posB (dC, dI) [(h0, .inr (7, [.ref h1, .ref h2, .int v_recorded, .ref h3, .ref h4, .ref h5, .int v_padLength, .ref h6, .int v_at, .int v_letter, .int v_hasUnder, .ref h7, .int v_numbersMany])), (h1, .inl (cI, 2628, .inl v_state))] [(cI, .int), (cC, .char), (cT, .object "CassetteTones$Tape")] (va_A [(h0, .inr (7, [.ref h1, .ref h2, .int v_recorded, .ref h3, .ref h4, .ref h5, .int v_padLength, .ref h6, .int v_at, .int v_letter, .int v_hasUnder, .ref h7, .int v_numbersMany])), (h1, .inl (cI, 2628, .inl v_state))] sz) t) (va_A [(h0, .inr (7, [.ref h1, .ref h2, .int v_recorded, .ref h3, .ref h4, .ref h5, .int v_padLength, .ref h6, .int v_at, .int v_letter, .int v_hasUnder, .ref h7, .int v_numbersMany])), (h1, .inl (cI, 2628, .inl v_state))] sz)) 0 0 (va_A [(h0, .inr (7, [.ref h1, .ref h2, .int v_recorded, .ref h3, .ref h4, .ref h5, .int v_padLength, .ref h6, .int v_at, .int v_letter, .int v_hasUnder, .ref h7, .int v_numbersMany])), (h1, .inl (cI, 2628, .inl v_state))] sz) := by
  refine x_met_i (by decide) rfl (Nat.le_of_ble_eq_true rfl) ?_
  intro p e s m args below meth c A Q H locs ls hx hb hml hown hts hK hN hA hP hD hS hl hend
  have hown : s.vm.findClass RX7 = some m.cls := hown
  have hl : lv_has ls 4 [(0, .ref h0), (1, .int p1)] := hl
  unfold den_X7_firstOf at hd
  refine lv_iconst (v := 0) hx hb dX7_firstOf_0 (by decide) ?_
  refine lv_istore_n (lv' := [(2, .int (0 : Int32)), (0, .ref h0), (1, .int p1)]) hx hb dX7_firstOf_1 rfl hl (by decide) rfl (fun ls hl => ?_)
  refine lv_iconst (v := 0) hx hb dX7_firstOf_2 (by decide) ?_
  refine lv_istore_n (lv' := [(3, .int (0 : Int32)), (2, .int (0 : Int32)), (0, .ref h0), (1, .int p1)]) hx hb dX7_firstOf_3 rfl hl (by decide) rfl (fun ls hl => ?_)
  obtain ⟨q1, hq1, hd⟩ := bnd_some hd
  have Kq1 : ∀ (H : Heap) (locs : List Loc) (ls : Array Slot), va_P (dC, dI) vwCl [(h0, .inr (7, [.ref h1, .ref h2, .int v_recorded, .ref h3, .ref h4, .ref h5, .int v_padLength, .ref h6, .int v_at, .int v_letter, .int v_hasUnder, .ref h7, .int v_numbersMany])), (h1, .inl (cI, 2628, .inl v_state))] H → va_D A [(h0, .inr (7, [.ref h1, .ref h2, .int v_recorded, .ref h3, .ref h4, .ref h5, .int v_padLength, .ref h6, .int v_at, .int v_letter, .int v_hasUnder, .ref h7, .int v_numbersMany])), (h1, .inl (cI, 2628, .inl v_state))] → va_S A s.heap H locs → lv_has ls 4 [(2, .int q1)] → W p l e rmX7_firstOf s m args below meth c H locs 0 0 Q (F0 m 23 ls []) := by
    intro H locs ls hP hD hS hl
    refine lv_iload_n hx hb dX7_firstOf_23 rfl (lv_at hl 0 rfl) ?_
    cases hd
    exact hend (by rfl) hP hD hS dX7_firstOf_24
  clear hd
  have KL4 : ∀ (fu : Nat) (y2_4 : Int32) (y3_4 : Int32) (hd : den_X7_firstOf_L4 p1 v_state fu y2_4 y3_4 = some q1) (H : Heap) (locs : List Loc) (ls : Array Slot), va_P (dC, dI) vwCl [(h0, .inr (7, [.ref h1, .ref h2, .int v_recorded, .ref h3, .ref h4, .ref h5, .int v_padLength, .ref h6, .int v_at, .int v_letter, .int v_hasUnder, .ref h7, .int v_numbersMany])), (h1, .inl (cI, 2628, .inl v_state))] H → va_D A [(h0, .inr (7, [.ref h1, .ref h2, .int v_recorded, .ref h3, .ref h4, .ref h5, .int v_padLength, .ref h6, .int v_at, .int v_letter, .int v_hasUnder, .ref h7, .int v_numbersMany])), (h1, .inl (cI, 2628, .inl v_state))] → va_S A s.heap H locs → lv_has ls 4 [(0, .ref h0), (1, .int p1), (2, .int y2_4), (3, .int y3_4)] → W p l e rmX7_firstOf s m args below meth c H locs 0 0 Q (F0 m 4 ls []) := by
    intro fu
    induction fu with
    | zero => intro y2_4 y3_4 hd; exact no_some hd
    | succ fu ih =>
      intro y2_4 y3_4 hd H locs ls hP hD hS hl
      rw [den_X7_firstOf_L4] at hd
      refine lv_iload_n hx hb dX7_firstOf_4 rfl (lv_at hl 3 rfl) ?_
      refine lv_iload_n hx hb dX7_firstOf_5 rfl (lv_at hl 1 rfl) ?_
      refine lv_icmp_ge (tgt := 23) hx hb dX7_firstOf_6 (by decide) (fun c2 => ?_) (fun c2 => ?_)
      · replace hd := ite_t c2 hd
        cases hd
        exact Kq1 _ _ _ hP hD hS (lv_sub hl [2] rfl)
      · replace hd := ite_f c2 hd
        refine lv_iload_n hx hb dX7_firstOf_9 rfl (lv_at hl 2 rfl) ?_
        refine lv_aload_n hx hb dX7_firstOf_10 rfl (lv_at hl 0 rfl) ?_
        refine lv_iload_n hx hb dX7_firstOf_11 rfl (lv_at hl 3 rfl) ?_
        obtain ⟨q3, hq3, hd⟩ := bnd_some hd
        have hPc : va_P (dC, dI) vwCl [(h0, .inr (7, [.ref h1, .ref h2, .int v_recorded, .ref h3, .ref h4, .ref h5, .int v_padLength, .ref h6, .int v_at, .int v_letter, .int v_hasUnder, .ref h7, .int v_numbersMany])), (h1, .inl (cI, 2628, .inl v_state))] _ := hP.sub [0, 1] rfl
        have hDc := hD.sub (ws' := [(h0, .inr (7, [.ref h1, .ref h2, .int v_recorded, .ref h3, .ref h4, .ref h5, .int v_padLength, .ref h6, .int v_at, .int v_letter, .int v_hasUnder, .ref h7, .int v_numbersMany])), (h1, .inl (cI, 2628, .inl v_state))]) [0, 1] (by decide) rfl
        have hFc := va_free (wc := [(h0, .inr (7, [.ref h1, .ref h2, .int v_recorded, .ref h3, .ref h4, .ref h5, .int v_padLength, .ref h6, .int v_at, .int v_letter, .int v_hasUnder, .ref h7, .int v_numbersMany])), (h1, .inl (cI, 2628, .inl v_state))]) hD hS hA [0, 1] rfl
        refine va_calli (va_runV (As := [.int y3_4]) (rest := [.int y2_4]) ⟨hx, hb, hml, hown, hts⟩ (c_X7_cellsOf l dC dI cI cC cT h0 h1 h2 h3 h4 h5 h6 h7 H.size v_state v_recorded v_padLength v_at v_letter v_hasUnder v_numbersMany y3_4 q3 hq3) (cwV 1 hts gX7_firstOf_X7_cellsOf rfl rfl rfl hv_X7_cellsOf ⟨Nat.le_of_ble_eq_true rfl, Nat.le_of_ble_eq_true rfl⟩) ⟨preB_fb, va_recv hK hPc (ci := 7) (q0 := 0) rfl rfl, fun U hU hW => preB_mk hU hW hPc hK hDc hN⟩ rfl rfl hl.1 rfl (lv_room (Nat.le_of_ble_eq_true rfl)) dX7_firstOf_12 ⟨Nat.zero_le _, Nat.zero_le _⟩) hS (fun q _ h => hFc q h) hFc (fun r_ u_ t H locs ht hvm hw hB hz1 hk1 hS => ?_)
        have hw : r_ = q3 := hw
        have hw := hw.symm
        subst hw
        obtain ⟨hP, hD⟩ := x_join (ws' := [(h0, .inr (7, [.ref h1, .ref h2, .int v_recorded, .ref h3, .ref h4, .ref h5, .int v_padLength, .ref h6, .int v_at, .int v_letter, .int v_hasUnder, .ref h7, .int v_numbersMany])), (h1, .inl (cI, 2628, .inl v_state))]) hP hD [0, 1] [] rfl rfl (by decide) (by decide) hk1 hFc ht hB [0, 1] (by decide) rfl
        clear hPc hDc hFc hk1 hB ht hz1 hvm
        refine lv_iadd hx hb dX7_firstOf_15 ?_
        refine lv_istore_n (lv' := [(2, .int (y2_4 + q3)), (0, .ref h0), (1, .int p1), (3, .int y3_4)]) hx hb dX7_firstOf_16 rfl hl (by decide) rfl (fun ls hl => ?_)
        refine lv_iinc (v := (y3_4 + (1 : Int32))) (lv' := [(3, .int (y3_4 + (1 : Int32))), (2, .int (y2_4 + q3)), (0, .ref h0), (1, .int p1)]) hx hb dX7_firstOf_17 hl (k := 3) rfl (by first | rfl | decide) (by decide) rfl (fun ls hl => ?_)
        refine lv_goto (tgt := 4) hx hb dX7_firstOf_20 (by decide) ?_
        exact ih (y2_4 + q3) (y3_4 + (1 : Int32)) hd _ _ _ hP hD hS (lv_sub hl [2, 3, 1, 0] rfl)
  exact KL4 FU (0 : Int32) (0 : Int32) hq1 _ _ _ hP hD hS (lv_sub hl [2, 3, 1, 0] rfl)
def rmX7_allCells : Room := { frames := 4, cells := 0, slots := 0, locals := 87 }
theorem kX7_allCells_1 : (Cond.fieldLink RX7 7 "CassetteTonesModel" "state" "[I") ∈ wsX7_allCells := List.mem_of_getElem? (i := 1) (by decide +kernel)
theorem inX7_allCells_X7 : ∀ w ∈ wsX70, w ∈ wsX7_allCells := by decide +kernel
theorem hp_X7_allCells : yX7_allCells.cls ≠ "java/lang/invoke/MethodHandle" ∧ yX7_allCells.cls ≠ "java/lang/invoke/VarHandle" ∧ (parseMethodDescriptor yX7_allCells.desc).map (fun d => d.parameters.length) = some 0 := by decide +kernel
theorem hv_X7_allCells : yX7_allCells.cls = RX7 ∧ yX7_allCells.cls ≠ "java/lang/invoke/MethodHandle" ∧ yX7_allCells.cls ≠ "java/lang/invoke/VarHandle" ∧ (parseMethodDescriptor yX7_allCells.desc).map (fun d => d.parameters.length) = some 0 := by decide +kernel
set_option maxHeartbeats 4000000 in
set_option maxRecDepth 100000 in
theorem c_X7_allCells (l : Launch) (dC : Nat → ClassId) (dI : Nat → Nat → Nat) (cI cC cT : ClassId) (h0 h1 h2 h3 h4 h5 h6 h7 : Nat) (sz : Nat) (v_state : (Nat → Int32)) (v_recorded : Int32) (v_padLength : Int32) (v_at : Int32) (v_letter : Int32) (v_hasUnder : Int32) (v_numbersMany : Int32) (r : Int32) (hd : den_X7_allCells v_state = some r) : Met l yX7_allCells wsX7_allCells rmX7_allCells (va_Pc [.ref h0] (preB sz (dC, dI) [(h0, .inr (7, [.ref h1, .ref h2, .int v_recorded, .ref h3, .ref h4, .ref h5, .int v_padLength, .ref h6, .int v_at, .int v_letter, .int v_hasUnder, .ref h7, .int v_numbersMany])), (h1, .inl (cI, 2628, .inl v_state))] [(cI, .int), (cC, .char), (cT, .object "CassetteTones$Tape")])) (va_Qi (S := Unit) (fun v _ => v = r) (fun _ t => posB (dC, dI) [(h0, .inr (7, [.ref h1, .ref h2, .int v_recorded, .ref h3, .ref h4, .ref h5, .int v_padLength, .ref h6, .int v_at, .int v_letter, .int v_hasUnder, .ref h7, .int v_numbersMany])), (h1, .inl (cI, 2628, .inl v_state))] [(cI, .int), (cC, .char), (cT, .object "CassetteTones$Tape")] (va_A [(h0, .inr (7, [.ref h1, .ref h2, .int v_recorded, .ref h3, .ref h4, .ref h5, .int v_padLength, .ref h6, .int v_at, .int v_letter, .int v_hasUnder, .ref h7, .int v_numbersMany])), (h1, .inl (cI, 2628, .inl v_state))] sz) t) (va_A [(h0, .inr (7, [.ref h1, .ref h2, .int v_recorded, .ref h3, .ref h4, .ref h5, .int v_padLength, .ref h6, .int v_at, .int v_letter, .int v_hasUnder, .ref h7, .int v_numbersMany])), (h1, .inl (cI, 2628, .inl v_state))] sz)) 0 0 (va_A [(h0, .inr (7, [.ref h1, .ref h2, .int v_recorded, .ref h3, .ref h4, .ref h5, .int v_padLength, .ref h6, .int v_at, .int v_letter, .int v_hasUnder, .ref h7, .int v_numbersMany])), (h1, .inl (cI, 2628, .inl v_state))] sz) := by
  refine x_met_i (by decide) rfl (Nat.le_of_ble_eq_true rfl) ?_
  intro p e s m args below meth c A Q H locs ls hx hb hml hown hts hK hN hA hP hD hS hl hend
  have hown : s.vm.findClass RX7 = some m.cls := hown
  have hl : lv_has ls 1 [(0, .ref h0)] := hl
  unfold den_X7_allCells at hd
  refine lv_aload_n hx hb dX7_allCells_0 rfl (lv_at hl 0 rfl) ?_
  refine lv_aload_n hx hb dX7_allCells_1 rfl (lv_at hl 0 rfl) ?_
  refine va_get (D := (dC, dI)) (ci := 7) (v := .ref h1) (C := RX7) (T := TX7) (N := 13) hx hb hts inX7_allCells_X7 hown hK hP 0 rfl rfl 0 (by decide) (hts _ kX7_allCells_1) (fun _ h9 => h9) rfl dX7_allCells_2 ?_
  refine lv_iconst (v := 3) hx hb dX7_allCells_5 (by decide) ?_
  refine x_iald (k := 3) hx hb hK hP 1 0 rfl rfl (inb_in (by decide)) rfl dX7_allCells_6 ?_
  obtain ⟨q1, hq1, hd⟩ := bnd_some hd
  have hPc : va_P (dC, dI) vwCl [(h0, .inr (7, [.ref h1, .ref h2, .int v_recorded, .ref h3, .ref h4, .ref h5, .int v_padLength, .ref h6, .int v_at, .int v_letter, .int v_hasUnder, .ref h7, .int v_numbersMany])), (h1, .inl (cI, 2628, .inl v_state))] _ := hP.sub [0, 1] rfl
  have hDc := hD.sub (ws' := [(h0, .inr (7, [.ref h1, .ref h2, .int v_recorded, .ref h3, .ref h4, .ref h5, .int v_padLength, .ref h6, .int v_at, .int v_letter, .int v_hasUnder, .ref h7, .int v_numbersMany])), (h1, .inl (cI, 2628, .inl v_state))]) [0, 1] (by decide) rfl
  have hFc := va_free (wc := [(h0, .inr (7, [.ref h1, .ref h2, .int v_recorded, .ref h3, .ref h4, .ref h5, .int v_padLength, .ref h6, .int v_at, .int v_letter, .int v_hasUnder, .ref h7, .int v_numbersMany])), (h1, .inl (cI, 2628, .inl v_state))]) hD hS hA [0, 1] rfl
  refine va_calli (va_runV (As := [.int (v_state 3)]) (rest := []) ⟨hx, hb, hml, hown, hts⟩ (c_X7_firstOf l dC dI cI cC cT h0 h1 h2 h3 h4 h5 h6 h7 H.size v_state v_recorded v_padLength v_at v_letter v_hasUnder v_numbersMany (v_state 3) q1 hq1) (cwV 1 hts gX7_allCells_X7_firstOf rfl rfl rfl hv_X7_firstOf ⟨Nat.le_of_ble_eq_true rfl, Nat.le_of_ble_eq_true rfl⟩) ⟨preB_fb, va_recv hK hPc (ci := 7) (q0 := 0) rfl rfl, fun U hU hW => preB_mk hU hW hPc hK hDc hN⟩ rfl rfl hl.1 rfl (lv_room (Nat.le_of_ble_eq_true rfl)) dX7_allCells_7 ⟨Nat.zero_le _, Nat.zero_le _⟩) hS (fun q _ h => hFc q h) hFc (fun r_ u_ t H locs ht hvm hw hB hz1 hk1 hS => ?_)
  have hw : r_ = q1 := hw
  have hw := hw.symm
  subst hw
  obtain ⟨hP, hD⟩ := x_join (ws' := [(h0, .inr (7, [.ref h1, .ref h2, .int v_recorded, .ref h3, .ref h4, .ref h5, .int v_padLength, .ref h6, .int v_at, .int v_letter, .int v_hasUnder, .ref h7, .int v_numbersMany])), (h1, .inl (cI, 2628, .inl v_state))]) hP hD [0, 1] [] rfl rfl (by decide) (by decide) hk1 hFc ht hB [0, 1] (by decide) rfl
  clear hPc hDc hFc hk1 hB ht hz1 hvm
  cases hd
  exact hend (by rfl) hP hD hS dX7_allCells_10
def rmX7_isCell : Room := { frames := 5, cells := 0, slots := 0, locals := 107 }
theorem hp_X7_isCell : yX7_isCell.cls ≠ "java/lang/invoke/MethodHandle" ∧ yX7_isCell.cls ≠ "java/lang/invoke/VarHandle" ∧ (parseMethodDescriptor yX7_isCell.desc).map (fun d => d.parameters.length) = some 1 := by decide +kernel
theorem hv_X7_isCell : yX7_isCell.cls = RX7 ∧ yX7_isCell.cls ≠ "java/lang/invoke/MethodHandle" ∧ yX7_isCell.cls ≠ "java/lang/invoke/VarHandle" ∧ (parseMethodDescriptor yX7_isCell.desc).map (fun d => d.parameters.length) = some 1 := by decide +kernel
set_option maxHeartbeats 4000000 in
set_option maxRecDepth 100000 in
theorem c_X7_isCell (l : Launch) (dC : Nat → ClassId) (dI : Nat → Nat → Nat) (cI cC cT : ClassId) (h0 h1 h2 h3 h4 h5 h6 h7 : Nat) (sz : Nat) (v_state : (Nat → Int32)) (v_recorded : Int32) (v_padLength : Int32) (v_at : Int32) (v_letter : Int32) (v_hasUnder : Int32) (v_numbersMany : Int32) (p1 : Int32) (r : Int32) (hd : den_X7_isCell v_state p1 = some r) : Met l yX7_isCell wsX7_isCell rmX7_isCell (va_Pc [.ref h0, .int p1] (preB sz (dC, dI) [(h0, .inr (7, [.ref h1, .ref h2, .int v_recorded, .ref h3, .ref h4, .ref h5, .int v_padLength, .ref h6, .int v_at, .int v_letter, .int v_hasUnder, .ref h7, .int v_numbersMany])), (h1, .inl (cI, 2628, .inl v_state))] [(cI, .int), (cC, .char), (cT, .object "CassetteTones$Tape")])) (va_Qi (S := Unit) (fun v _ => v = r) (fun _ t => posB (dC, dI) [(h0, .inr (7, [.ref h1, .ref h2, .int v_recorded, .ref h3, .ref h4, .ref h5, .int v_padLength, .ref h6, .int v_at, .int v_letter, .int v_hasUnder, .ref h7, .int v_numbersMany])), (h1, .inl (cI, 2628, .inl v_state))] [(cI, .int), (cC, .char), (cT, .object "CassetteTones$Tape")] (va_A [(h0, .inr (7, [.ref h1, .ref h2, .int v_recorded, .ref h3, .ref h4, .ref h5, .int v_padLength, .ref h6, .int v_at, .int v_letter, .int v_hasUnder, .ref h7, .int v_numbersMany])), (h1, .inl (cI, 2628, .inl v_state))] sz) t) (va_A [(h0, .inr (7, [.ref h1, .ref h2, .int v_recorded, .ref h3, .ref h4, .ref h5, .int v_padLength, .ref h6, .int v_at, .int v_letter, .int v_hasUnder, .ref h7, .int v_numbersMany])), (h1, .inl (cI, 2628, .inl v_state))] sz)) 0 0 (va_A [(h0, .inr (7, [.ref h1, .ref h2, .int v_recorded, .ref h3, .ref h4, .ref h5, .int v_padLength, .ref h6, .int v_at, .int v_letter, .int v_hasUnder, .ref h7, .int v_numbersMany])), (h1, .inl (cI, 2628, .inl v_state))] sz) := by
  refine x_met_z (by decide) rfl (Nat.le_of_ble_eq_true rfl) ?_
  intro p e s m args below meth c A Q H locs ls hx hb hml hown hts hK hN hA hP hD hS hl hend
  have hown : s.vm.findClass RX7 = some m.cls := hown
  have hl : lv_has ls 2 [(0, .ref h0), (1, .int p1)] := hl
  unfold den_X7_isCell at hd
  refine lv_iload_n hx hb dX7_isCell_0 rfl (lv_at hl 1 rfl) ?_
  refine lv_iconst (v := 0) hx hb dX7_isCell_1 (by decide) ?_
  refine lv_aload_n hx hb dX7_isCell_2 rfl (lv_at hl 0 rfl) ?_
  obtain ⟨q1, hq1, hd⟩ := bnd_some hd
  have hPc : va_P (dC, dI) vwCl [(h0, .inr (7, [.ref h1, .ref h2, .int v_recorded, .ref h3, .ref h4, .ref h5, .int v_padLength, .ref h6, .int v_at, .int v_letter, .int v_hasUnder, .ref h7, .int v_numbersMany])), (h1, .inl (cI, 2628, .inl v_state))] _ := hP.sub [0, 1] rfl
  have hDc := hD.sub (ws' := [(h0, .inr (7, [.ref h1, .ref h2, .int v_recorded, .ref h3, .ref h4, .ref h5, .int v_padLength, .ref h6, .int v_at, .int v_letter, .int v_hasUnder, .ref h7, .int v_numbersMany])), (h1, .inl (cI, 2628, .inl v_state))]) [0, 1] (by decide) rfl
  have hFc := va_free (wc := [(h0, .inr (7, [.ref h1, .ref h2, .int v_recorded, .ref h3, .ref h4, .ref h5, .int v_padLength, .ref h6, .int v_at, .int v_letter, .int v_hasUnder, .ref h7, .int v_numbersMany])), (h1, .inl (cI, 2628, .inl v_state))]) hD hS hA [0, 1] rfl
  refine va_calli (va_runV (As := []) (rest := [.int (0 : Int32), .int p1]) ⟨hx, hb, hml, hown, hts⟩ (c_X7_allCells l dC dI cI cC cT h0 h1 h2 h3 h4 h5 h6 h7 H.size v_state v_recorded v_padLength v_at v_letter v_hasUnder v_numbersMany q1 hq1) (cwV 0 hts gX7_isCell_X7_allCells rfl rfl rfl hv_X7_allCells ⟨Nat.le_of_ble_eq_true rfl, Nat.le_of_ble_eq_true rfl⟩) ⟨preB_fb, va_recv hK hPc (ci := 7) (q0 := 0) rfl rfl, fun U hU hW => preB_mk hU hW hPc hK hDc hN⟩ rfl rfl hl.1 rfl (lv_room (Nat.le_of_ble_eq_true rfl)) dX7_isCell_3 ⟨Nat.zero_le _, Nat.zero_le _⟩) hS (fun q _ h => hFc q h) hFc (fun r_ u_ t H locs ht hvm hw hB hz1 hk1 hS => ?_)
  have hw : r_ = q1 := hw
  have hw := hw.symm
  subst hw
  obtain ⟨hP, hD⟩ := x_join (ws' := [(h0, .inr (7, [.ref h1, .ref h2, .int v_recorded, .ref h3, .ref h4, .ref h5, .int v_padLength, .ref h6, .int v_at, .int v_letter, .int v_hasUnder, .ref h7, .int v_numbersMany])), (h1, .inl (cI, 2628, .inl v_state))]) hP hD [0, 1] [] rfl rfl (by decide) (by decide) hk1 hFc ht hB [0, 1] (by decide) rfl
  clear hPc hDc hFc hk1 hB ht hz1 hvm
  refine lv_iconst (v := 1) hx hb dX7_isCell_6 (by decide) ?_
  refine lv_isub hx hb dX7_isCell_7 ?_
  obtain ⟨q2, hq2, hd⟩ := bnd_some hd
  have hPc : va_P (dC, dI) vwCl [] _ := hP.sub [] rfl
  have hDc := hD.sub (ws' := []) [] (by decide) rfl
  have hFc := va_free (wc := []) hD hS hA [] rfl
  refine va_calli (va_runS (As := [.int p1, .int (0 : Int32), .int (q1 - (1 : Int32))]) (rest := []) ⟨hx, hb, hml, hown, hts⟩ (c_X7_within l dC dI cI cC cT H.size p1 (0 : Int32) (q1 - (1 : Int32)) q2 hq2) (va_cwS 3 hts gX7_isCell_X7_within rfl rfl rfl hp_X7_within ⟨Nat.le_of_ble_eq_true rfl, Nat.le_of_ble_eq_true rfl⟩) ⟨preB_fb, fun U hU hW => preB_mk hU hW hPc hK hDc hN⟩ rfl rfl hl.1 rfl (lv_room (Nat.le_of_ble_eq_true rfl)) dX7_isCell_8 ⟨Nat.zero_le _, Nat.zero_le _⟩) hS (fun q _ h => hFc q h) hFc (fun r_ u_ t H locs ht hvm hw hB hz1 hk1 hS => ?_)
  have hw : r_ = q2 := hw
  have hw := hw.symm
  subst hw
  obtain ⟨hP, hD⟩ := x_join (ws' := [(h0, .inr (7, [.ref h1, .ref h2, .int v_recorded, .ref h3, .ref h4, .ref h5, .int v_padLength, .ref h6, .int v_at, .int v_letter, .int v_hasUnder, .ref h7, .int v_numbersMany])), (h1, .inl (cI, 2628, .inl v_state))]) hP hD [] [0, 1] rfl rfl (by decide) (by decide) hk1 hFc ht hB [0, 1] (by decide) rfl
  clear hPc hDc hFc hk1 hB ht hz1 hvm
  obtain ⟨g3, hd⟩ := gd_some hd
  cases hd
  exact hend (by rfl) (z_nar g3) hP hD hS dX7_isCell_11
def rmX7_blockOf : Room := { frames := 4, cells := 0, slots := 0, locals := 87 }
theorem hp_X7_blockOf : yX7_blockOf.cls ≠ "java/lang/invoke/MethodHandle" ∧ yX7_blockOf.cls ≠ "java/lang/invoke/VarHandle" ∧ (parseMethodDescriptor yX7_blockOf.desc).map (fun d => d.parameters.length) = some 1 := by decide +kernel
theorem hv_X7_blockOf : yX7_blockOf.cls = RX7 ∧ yX7_blockOf.cls ≠ "java/lang/invoke/MethodHandle" ∧ yX7_blockOf.cls ≠ "java/lang/invoke/VarHandle" ∧ (parseMethodDescriptor yX7_blockOf.desc).map (fun d => d.parameters.length) = some 1 := by decide +kernel
set_option maxHeartbeats 4000000 in
set_option maxRecDepth 100000 in
theorem c_X7_blockOf (l : Launch) (dC : Nat → ClassId) (dI : Nat → Nat → Nat) (cI cC cT : ClassId) (h0 h1 h2 h3 h4 h5 h6 h7 : Nat) (sz : Nat) (v_state : (Nat → Int32)) (v_recorded : Int32) (v_padLength : Int32) (v_at : Int32) (v_letter : Int32) (v_hasUnder : Int32) (v_numbersMany : Int32) (p1 : Int32) (r : Int32) (hd : den_X7_blockOf v_state p1 = some r) : Met l yX7_blockOf wsX7_blockOf rmX7_blockOf (va_Pc [.ref h0, .int p1] (preB sz (dC, dI) [(h0, .inr (7, [.ref h1, .ref h2, .int v_recorded, .ref h3, .ref h4, .ref h5, .int v_padLength, .ref h6, .int v_at, .int v_letter, .int v_hasUnder, .ref h7, .int v_numbersMany])), (h1, .inl (cI, 2628, .inl v_state))] [(cI, .int), (cC, .char), (cT, .object "CassetteTones$Tape")])) (va_Qi (S := Unit) (fun v _ => v = r) (fun _ t => posB (dC, dI) [(h0, .inr (7, [.ref h1, .ref h2, .int v_recorded, .ref h3, .ref h4, .ref h5, .int v_padLength, .ref h6, .int v_at, .int v_letter, .int v_hasUnder, .ref h7, .int v_numbersMany])), (h1, .inl (cI, 2628, .inl v_state))] [(cI, .int), (cC, .char), (cT, .object "CassetteTones$Tape")] (va_A [(h0, .inr (7, [.ref h1, .ref h2, .int v_recorded, .ref h3, .ref h4, .ref h5, .int v_padLength, .ref h6, .int v_at, .int v_letter, .int v_hasUnder, .ref h7, .int v_numbersMany])), (h1, .inl (cI, 2628, .inl v_state))] sz) t) (va_A [(h0, .inr (7, [.ref h1, .ref h2, .int v_recorded, .ref h3, .ref h4, .ref h5, .int v_padLength, .ref h6, .int v_at, .int v_letter, .int v_hasUnder, .ref h7, .int v_numbersMany])), (h1, .inl (cI, 2628, .inl v_state))] sz)) 0 0 (va_A [(h0, .inr (7, [.ref h1, .ref h2, .int v_recorded, .ref h3, .ref h4, .ref h5, .int v_padLength, .ref h6, .int v_at, .int v_letter, .int v_hasUnder, .ref h7, .int v_numbersMany])), (h1, .inl (cI, 2628, .inl v_state))] sz) := by
  refine x_met_i (by decide) rfl (Nat.le_of_ble_eq_true rfl) ?_
  intro p e s m args below meth c A Q H locs ls hx hb hml hown hts hK hN hA hP hD hS hl hend
  have hown : s.vm.findClass RX7 = some m.cls := hown
  have hl : lv_has ls 3 [(0, .ref h0), (1, .int p1)] := hl
  unfold den_X7_blockOf at hd
  refine lv_iconst (v := 0) hx hb dX7_blockOf_0 (by decide) ?_
  refine lv_istore_n (lv' := [(2, .int (0 : Int32)), (0, .ref h0), (1, .int p1)]) hx hb dX7_blockOf_1 rfl hl (by decide) rfl (fun ls hl => ?_)
  obtain ⟨q1, hq1, hd⟩ := bnd_some hd
  have Kq1 : ∀ (H : Heap) (locs : List Loc) (ls : Array Slot), va_P (dC, dI) vwCl [(h0, .inr (7, [.ref h1, .ref h2, .int v_recorded, .ref h3, .ref h4, .ref h5, .int v_padLength, .ref h6, .int v_at, .int v_letter, .int v_hasUnder, .ref h7, .int v_numbersMany])), (h1, .inl (cI, 2628, .inl v_state))] H → va_D A [(h0, .inr (7, [.ref h1, .ref h2, .int v_recorded, .ref h3, .ref h4, .ref h5, .int v_padLength, .ref h6, .int v_at, .int v_letter, .int v_hasUnder, .ref h7, .int v_numbersMany])), (h1, .inl (cI, 2628, .inl v_state))] → va_S A s.heap H locs → lv_has ls 3 [(2, .int q1)] → W p l e rmX7_blockOf s m args below meth c H locs 0 0 Q (F0 m 19 ls []) := by
    intro H locs ls hP hD hS hl
    refine lv_iload_n hx hb dX7_blockOf_19 rfl (lv_at hl 0 rfl) ?_
    cases hd
    exact hend (by rfl) hP hD hS dX7_blockOf_20
  clear hd
  have KL4 : ∀ (fu : Nat) (y2_2 : Int32) (hd : den_X7_blockOf_L2 p1 v_state fu y2_2 = some q1) (H : Heap) (locs : List Loc) (ls : Array Slot), va_P (dC, dI) vwCl [(h0, .inr (7, [.ref h1, .ref h2, .int v_recorded, .ref h3, .ref h4, .ref h5, .int v_padLength, .ref h6, .int v_at, .int v_letter, .int v_hasUnder, .ref h7, .int v_numbersMany])), (h1, .inl (cI, 2628, .inl v_state))] H → va_D A [(h0, .inr (7, [.ref h1, .ref h2, .int v_recorded, .ref h3, .ref h4, .ref h5, .int v_padLength, .ref h6, .int v_at, .int v_letter, .int v_hasUnder, .ref h7, .int v_numbersMany])), (h1, .inl (cI, 2628, .inl v_state))] → va_S A s.heap H locs → lv_has ls 3 [(0, .ref h0), (1, .int p1), (2, .int y2_2)] → W p l e rmX7_blockOf s m args below meth c H locs 0 0 Q (F0 m 2 ls []) := by
    intro fu
    induction fu with
    | zero => intro y2_2 hd; exact no_some hd
    | succ fu ih =>
      intro y2_2 hd H locs ls hP hD hS hl
      rw [den_X7_blockOf_L2] at hd
      refine lv_aload_n hx hb dX7_blockOf_2 rfl (lv_at hl 0 rfl) ?_
      refine lv_iload_n hx hb dX7_blockOf_3 rfl (lv_at hl 2 rfl) ?_
      refine lv_iconst (v := 1) hx hb dX7_blockOf_4 (by decide) ?_
      refine lv_iadd hx hb dX7_blockOf_5 ?_
      obtain ⟨q2, hq2, hd⟩ := bnd_some hd
      have hPc : va_P (dC, dI) vwCl [(h0, .inr (7, [.ref h1, .ref h2, .int v_recorded, .ref h3, .ref h4, .ref h5, .int v_padLength, .ref h6, .int v_at, .int v_letter, .int v_hasUnder, .ref h7, .int v_numbersMany])), (h1, .inl (cI, 2628, .inl v_state))] _ := hP.sub [0, 1] rfl
      have hDc := hD.sub (ws' := [(h0, .inr (7, [.ref h1, .ref h2, .int v_recorded, .ref h3, .ref h4, .ref h5, .int v_padLength, .ref h6, .int v_at, .int v_letter, .int v_hasUnder, .ref h7, .int v_numbersMany])), (h1, .inl (cI, 2628, .inl v_state))]) [0, 1] (by decide) rfl
      have hFc := va_free (wc := [(h0, .inr (7, [.ref h1, .ref h2, .int v_recorded, .ref h3, .ref h4, .ref h5, .int v_padLength, .ref h6, .int v_at, .int v_letter, .int v_hasUnder, .ref h7, .int v_numbersMany])), (h1, .inl (cI, 2628, .inl v_state))]) hD hS hA [0, 1] rfl
      refine va_calli (va_runV (As := [.int (y2_2 + (1 : Int32))]) (rest := []) ⟨hx, hb, hml, hown, hts⟩ (c_X7_firstOf l dC dI cI cC cT h0 h1 h2 h3 h4 h5 h6 h7 H.size v_state v_recorded v_padLength v_at v_letter v_hasUnder v_numbersMany (y2_2 + (1 : Int32)) q2 hq2) (cwV 1 hts gX7_blockOf_X7_firstOf rfl rfl rfl hv_X7_firstOf ⟨Nat.le_of_ble_eq_true rfl, Nat.le_of_ble_eq_true rfl⟩) ⟨preB_fb, va_recv hK hPc (ci := 7) (q0 := 0) rfl rfl, fun U hU hW => preB_mk hU hW hPc hK hDc hN⟩ rfl rfl hl.1 rfl (lv_room (Nat.le_of_ble_eq_true rfl)) dX7_blockOf_6 ⟨Nat.zero_le _, Nat.zero_le _⟩) hS (fun q _ h => hFc q h) hFc (fun r_ u_ t H locs ht hvm hw hB hz1 hk1 hS => ?_)
      have hw : r_ = q2 := hw
      have hw := hw.symm
      subst hw
      obtain ⟨hP, hD⟩ := x_join (ws' := [(h0, .inr (7, [.ref h1, .ref h2, .int v_recorded, .ref h3, .ref h4, .ref h5, .int v_padLength, .ref h6, .int v_at, .int v_letter, .int v_hasUnder, .ref h7, .int v_numbersMany])), (h1, .inl (cI, 2628, .inl v_state))]) hP hD [0, 1] [] rfl rfl (by decide) (by decide) hk1 hFc ht hB [0, 1] (by decide) rfl
      clear hPc hDc hFc hk1 hB ht hz1 hvm
      refine lv_iload_n hx hb dX7_blockOf_9 rfl (lv_at hl 1 rfl) ?_
      refine lv_icmp_gt (tgt := 19) hx hb dX7_blockOf_10 (by decide) (fun c3 => ?_) (fun c3 => ?_)
      · replace hd := ite_t c3 hd
        cases hd
        exact Kq1 _ _ _ hP hD hS (lv_sub hl [2] rfl)
      · replace hd := ite_f c3 hd
        refine lv_iinc (v := (y2_2 + (1 : Int32))) (lv' := [(2, .int (y2_2 + (1 : Int32))), (0, .ref h0), (1, .int p1)]) hx hb dX7_blockOf_13 hl (k := 2) rfl (by first | rfl | decide) (by decide) rfl (fun ls hl => ?_)
        refine lv_goto (tgt := 2) hx hb dX7_blockOf_16 (by decide) ?_
        exact ih (y2_2 + (1 : Int32)) hd _ _ _ hP hD hS (lv_sub hl [1, 2, 0] rfl)
  exact KL4 FU (0 : Int32) hq1 _ _ _ hP hD hS (lv_sub hl [1, 2, 0] rfl)
def rmX7_volumeOf : Room := { frames := 0, cells := 0, slots := 0, locals := 0 }
theorem kX7_volumeOf_1 : (Cond.fieldLink RX7 7 "CassetteTonesModel" "state" "[I") ∈ wsX7_volumeOf := List.mem_of_getElem? (i := 1) (by decide +kernel)
theorem inX7_volumeOf_X7 : ∀ w ∈ wsX70, w ∈ wsX7_volumeOf := by decide +kernel
theorem hp_X7_volumeOf : yX7_volumeOf.cls ≠ "java/lang/invoke/MethodHandle" ∧ yX7_volumeOf.cls ≠ "java/lang/invoke/VarHandle" ∧ (parseMethodDescriptor yX7_volumeOf.desc).map (fun d => d.parameters.length) = some 1 := by decide +kernel
theorem hv_X7_volumeOf : yX7_volumeOf.cls = RX7 ∧ yX7_volumeOf.cls ≠ "java/lang/invoke/MethodHandle" ∧ yX7_volumeOf.cls ≠ "java/lang/invoke/VarHandle" ∧ (parseMethodDescriptor yX7_volumeOf.desc).map (fun d => d.parameters.length) = some 1 := by decide +kernel
set_option maxHeartbeats 4000000 in
set_option maxRecDepth 100000 in
theorem c_X7_volumeOf (l : Launch) (dC : Nat → ClassId) (dI : Nat → Nat → Nat) (cI cC cT : ClassId) (h0 h1 h2 h3 h4 h5 h6 h7 : Nat) (sz : Nat) (v_state : (Nat → Int32)) (v_recorded : Int32) (v_padLength : Int32) (v_at : Int32) (v_letter : Int32) (v_hasUnder : Int32) (v_numbersMany : Int32) (p1 : Int32) (r : Int32) (hd : den_X7_volumeOf v_state p1 = some r) : Met l yX7_volumeOf wsX7_volumeOf rmX7_volumeOf (va_Pc [.ref h0, .int p1] (preB sz (dC, dI) [(h0, .inr (7, [.ref h1, .ref h2, .int v_recorded, .ref h3, .ref h4, .ref h5, .int v_padLength, .ref h6, .int v_at, .int v_letter, .int v_hasUnder, .ref h7, .int v_numbersMany])), (h1, .inl (cI, 2628, .inl v_state))] [(cI, .int), (cC, .char), (cT, .object "CassetteTones$Tape")])) (va_Qi (S := Unit) (fun v _ => v = r) (fun _ t => posB (dC, dI) [(h0, .inr (7, [.ref h1, .ref h2, .int v_recorded, .ref h3, .ref h4, .ref h5, .int v_padLength, .ref h6, .int v_at, .int v_letter, .int v_hasUnder, .ref h7, .int v_numbersMany])), (h1, .inl (cI, 2628, .inl v_state))] [(cI, .int), (cC, .char), (cT, .object "CassetteTones$Tape")] (va_A [(h0, .inr (7, [.ref h1, .ref h2, .int v_recorded, .ref h3, .ref h4, .ref h5, .int v_padLength, .ref h6, .int v_at, .int v_letter, .int v_hasUnder, .ref h7, .int v_numbersMany])), (h1, .inl (cI, 2628, .inl v_state))] sz) t) (va_A [(h0, .inr (7, [.ref h1, .ref h2, .int v_recorded, .ref h3, .ref h4, .ref h5, .int v_padLength, .ref h6, .int v_at, .int v_letter, .int v_hasUnder, .ref h7, .int v_numbersMany])), (h1, .inl (cI, 2628, .inl v_state))] sz)) 0 0 (va_A [(h0, .inr (7, [.ref h1, .ref h2, .int v_recorded, .ref h3, .ref h4, .ref h5, .int v_padLength, .ref h6, .int v_at, .int v_letter, .int v_hasUnder, .ref h7, .int v_numbersMany])), (h1, .inl (cI, 2628, .inl v_state))] sz) := by
  refine x_met_i (by decide) rfl (Nat.le_of_ble_eq_true rfl) ?_
  intro p e s m args below meth c A Q H locs ls hx hb hml hown hts hK hN hA hP hD hS hl hend
  have hown : s.vm.findClass RX7 = some m.cls := hown
  have hl : lv_has ls 2 [(0, .ref h0), (1, .int p1)] := hl
  unfold den_X7_volumeOf at hd
  refine lv_aload_n hx hb dX7_volumeOf_0 rfl (lv_at hl 0 rfl) ?_
  refine va_get (D := (dC, dI)) (ci := 7) (v := .ref h1) (C := RX7) (T := TX7) (N := 13) hx hb hts inX7_volumeOf_X7 hown hK hP 0 rfl rfl 0 (by decide) (hts _ kX7_volumeOf_1) (fun _ h9 => h9) rfl dX7_volumeOf_1 ?_
  refine lv_sipush (v := 164) hx hb dX7_volumeOf_4 (by decide) ?_
  refine lv_iload_n hx hb dX7_volumeOf_7 rfl (lv_at hl 1 rfl) ?_
  refine lv_iadd hx hb dX7_volumeOf_8 ?_
  obtain ⟨g1, hd⟩ := gd_some hd
  refine x_iald (k := ((164 : Int32) + p1).toNatClampNeg) hx hb hK hP 1 0 rfl rfl (inb_in g1) rfl dX7_volumeOf_9 ?_
  refine lv_sipush (v := 128) hx hb dX7_volumeOf_10 (by decide) ?_
  refine lv_irem hx hb dX7_volumeOf_13 (by decide) ?_
  cases hd
  exact hend (by rfl) hP hD hS dX7_volumeOf_14
def rmX7_badness : Room := { frames := 0, cells := 0, slots := 0, locals := 0 }
theorem kX7_badness_1 : (Cond.fieldLink RX7 7 "CassetteTonesModel" "state" "[I") ∈ wsX7_badness := List.mem_of_getElem? (i := 1) (by decide +kernel)
theorem inX7_badness_X7 : ∀ w ∈ wsX70, w ∈ wsX7_badness := by decide +kernel
theorem hp_X7_badness : yX7_badness.cls ≠ "java/lang/invoke/MethodHandle" ∧ yX7_badness.cls ≠ "java/lang/invoke/VarHandle" ∧ (parseMethodDescriptor yX7_badness.desc).map (fun d => d.parameters.length) = some 1 := by decide +kernel
theorem hv_X7_badness : yX7_badness.cls = RX7 ∧ yX7_badness.cls ≠ "java/lang/invoke/MethodHandle" ∧ yX7_badness.cls ≠ "java/lang/invoke/VarHandle" ∧ (parseMethodDescriptor yX7_badness.desc).map (fun d => d.parameters.length) = some 1 := by decide +kernel
set_option maxHeartbeats 4000000 in
set_option maxRecDepth 100000 in
theorem c_X7_badness (l : Launch) (dC : Nat → ClassId) (dI : Nat → Nat → Nat) (cI cC cT : ClassId) (h0 h1 h2 h3 h4 h5 h6 h7 : Nat) (sz : Nat) (v_state : (Nat → Int32)) (v_recorded : Int32) (v_padLength : Int32) (v_at : Int32) (v_letter : Int32) (v_hasUnder : Int32) (v_numbersMany : Int32) (p1 : Int32) (r : Int32) (hd : den_X7_badness v_state p1 = some r) : Met l yX7_badness wsX7_badness rmX7_badness (va_Pc [.ref h0, .int p1] (preB sz (dC, dI) [(h0, .inr (7, [.ref h1, .ref h2, .int v_recorded, .ref h3, .ref h4, .ref h5, .int v_padLength, .ref h6, .int v_at, .int v_letter, .int v_hasUnder, .ref h7, .int v_numbersMany])), (h1, .inl (cI, 2628, .inl v_state))] [(cI, .int), (cC, .char), (cT, .object "CassetteTones$Tape")])) (va_Qi (S := Unit) (fun v _ => v = r) (fun _ t => posB (dC, dI) [(h0, .inr (7, [.ref h1, .ref h2, .int v_recorded, .ref h3, .ref h4, .ref h5, .int v_padLength, .ref h6, .int v_at, .int v_letter, .int v_hasUnder, .ref h7, .int v_numbersMany])), (h1, .inl (cI, 2628, .inl v_state))] [(cI, .int), (cC, .char), (cT, .object "CassetteTones$Tape")] (va_A [(h0, .inr (7, [.ref h1, .ref h2, .int v_recorded, .ref h3, .ref h4, .ref h5, .int v_padLength, .ref h6, .int v_at, .int v_letter, .int v_hasUnder, .ref h7, .int v_numbersMany])), (h1, .inl (cI, 2628, .inl v_state))] sz) t) (va_A [(h0, .inr (7, [.ref h1, .ref h2, .int v_recorded, .ref h3, .ref h4, .ref h5, .int v_padLength, .ref h6, .int v_at, .int v_letter, .int v_hasUnder, .ref h7, .int v_numbersMany])), (h1, .inl (cI, 2628, .inl v_state))] sz)) 0 0 (va_A [(h0, .inr (7, [.ref h1, .ref h2, .int v_recorded, .ref h3, .ref h4, .ref h5, .int v_padLength, .ref h6, .int v_at, .int v_letter, .int v_hasUnder, .ref h7, .int v_numbersMany])), (h1, .inl (cI, 2628, .inl v_state))] sz) := by
  refine x_met_i (by decide) rfl (Nat.le_of_ble_eq_true rfl) ?_
  intro p e s m args below meth c A Q H locs ls hx hb hml hown hts hK hN hA hP hD hS hl hend
  have hown : s.vm.findClass RX7 = some m.cls := hown
  have hl : lv_has ls 2 [(0, .ref h0), (1, .int p1)] := hl
  unfold den_X7_badness at hd
  refine lv_aload_n hx hb dX7_badness_0 rfl (lv_at hl 0 rfl) ?_
  refine va_get (D := (dC, dI)) (ci := 7) (v := .ref h1) (C := RX7) (T := TX7) (N := 13) hx hb hts inX7_badness_X7 hown hK hP 0 rfl rfl 0 (by decide) (hts _ kX7_badness_1) (fun _ h9 => h9) rfl dX7_badness_1 ?_
  refine lv_sipush (v := 164) hx hb dX7_badness_4 (by decide) ?_
  refine lv_iload_n hx hb dX7_badness_7 rfl (lv_at hl 1 rfl) ?_
  refine lv_iadd hx hb dX7_badness_8 ?_
  obtain ⟨g1, hd⟩ := gd_some hd
  refine x_iald (k := ((164 : Int32) + p1).toNatClampNeg) hx hb hK hP 1 0 rfl rfl (inb_in g1) rfl dX7_badness_9 ?_
  refine lv_sipush (v := 128) hx hb dX7_badness_10 (by decide) ?_
  refine lv_idiv hx hb dX7_badness_13 (by decide) ?_
  cases hd
  exact hend (by rfl) hP hD hS dX7_badness_14
def rmX7_isOdd : Room := { frames := 0, cells := 0, slots := 0, locals := 0 }
theorem hp_X7_isOdd : yX7_isOdd.cls ≠ "java/lang/invoke/MethodHandle" ∧ yX7_isOdd.cls ≠ "java/lang/invoke/VarHandle" ∧ (parseMethodDescriptor yX7_isOdd.desc).map (fun d => d.parameters.length) = some 1 := by decide +kernel
set_option maxHeartbeats 4000000 in
set_option maxRecDepth 100000 in
theorem c_X7_isOdd (l : Launch) (dC : Nat → ClassId) (dI : Nat → Nat → Nat) (cI cC cT : ClassId) (sz : Nat) (p1 : Int32) (r : Int32) (hd : den_X7_isOdd p1 = some r) : Met l yX7_isOdd wsX7_isOdd rmX7_isOdd (va_Pc [.int p1] (preB sz (dC, dI) [] [(cI, .int), (cC, .char), (cT, .object "CassetteTones$Tape")])) (va_Qi (S := Unit) (fun v _ => v = r) (fun _ t => posB (dC, dI) [] [(cI, .int), (cC, .char), (cT, .object "CassetteTones$Tape")] (va_A [] sz) t) (va_A [] sz)) 0 0 (va_A [] sz) := by
  refine x_met_i (by decide) rfl (Nat.le_of_ble_eq_true rfl) ?_
  intro p e s m args below meth c A Q H locs ls hx hb hml hown hts hK hN hA hP hD hS hl hend
  have hown : s.vm.findClass RX7 = some m.cls := hown
  have hl : lv_has ls 3 [(0, .int p1)] := hl
  unfold den_X7_isOdd at hd
  refine lv_iconst (v := 0) hx hb dX7_isOdd_0 (by decide) ?_
  refine lv_istore_n (lv' := [(1, .int (0 : Int32)), (0, .int p1)]) hx hb dX7_isOdd_1 rfl hl (by decide) rfl (fun ls hl => ?_)
  refine lv_iconst (v := 0) hx hb dX7_isOdd_2 (by decide) ?_
  refine lv_istore_n (lv' := [(2, .int (0 : Int32)), (1, .int (0 : Int32)), (0, .int p1)]) hx hb dX7_isOdd_3 rfl hl (by decide) rfl (fun ls hl => ?_)
  obtain ⟨q1, hq1, hd⟩ := bnd_some hd
  have Kq1 : ∀ (H : Heap) (locs : List Loc) (ls : Array Slot), va_P (dC, dI) vwCl [] H → va_D A [] → va_S A s.heap H locs → lv_has ls 3 [(1, .int q1)] → W p l e rmX7_isOdd s m args below meth c H locs 0 0 Q (F0 m 24 ls []) := by
    intro H locs ls hP hD hS hl
    refine lv_iload_n hx hb dX7_isOdd_24 rfl (lv_at hl 0 rfl) ?_
    refine lv_iconst (v := 2) hx hb dX7_isOdd_25 (by decide) ?_
    refine lv_irem hx hb dX7_isOdd_26 (by decide) ?_
    cases hd
    exact hend (by rfl) hP hD hS dX7_isOdd_27
  clear hd
  have KL4 : ∀ (fu : Nat) (y1_4 : Int32) (y2_4 : Int32) (hd : den_X7_isOdd_L4 p1 fu y1_4 y2_4 = some q1) (H : Heap) (locs : List Loc) (ls : Array Slot), va_P (dC, dI) vwCl [] H → va_D A [] → va_S A s.heap H locs → lv_has ls 3 [(0, .int p1), (1, .int y1_4), (2, .int y2_4)] → W p l e rmX7_isOdd s m args below meth c H locs 0 0 Q (F0 m 4 ls []) := by
    intro fu
    induction fu with
    | zero => intro y1_4 y2_4 hd; exact no_some hd
    | succ fu ih =>
      intro y1_4 y2_4 hd H locs ls hP hD hS hl
      rw [den_X7_isOdd_L4] at hd
      refine lv_iload_n hx hb dX7_isOdd_4 rfl (lv_at hl 2 rfl) ?_
      refine lv_bipush (v := 8) hx hb dX7_isOdd_5 (by decide) ?_
      refine lv_icmp_ge (tgt := 24) hx hb dX7_isOdd_7 (by decide) (fun c2 => ?_) (fun c2 => ?_)
      · replace hd := ite_t c2 hd
        cases hd
        exact Kq1 _ _ _ hP hD hS (lv_sub hl [1] rfl)
      · replace hd := ite_f c2 hd
        refine lv_iload_n hx hb dX7_isOdd_10 rfl (lv_at hl 1 rfl) ?_
        refine lv_iload_n hx hb dX7_isOdd_11 rfl (lv_at hl 0 rfl) ?_
        refine lv_iload_n hx hb dX7_isOdd_12 rfl (lv_at hl 2 rfl) ?_
        refine lv_ishr hx hb dX7_isOdd_13 ?_
        refine lv_iconst (v := 1) hx hb dX7_isOdd_14 (by decide) ?_
        refine lv_iand hx hb dX7_isOdd_15 ?_
        refine lv_iadd hx hb dX7_isOdd_16 ?_
        refine lv_topi (fun x3 ex3 => ?_)
        replace hd := nm_some ex3 hd
        refine lv_istore_n (lv' := [(1, .int x3), (0, .int p1), (2, .int y2_4)]) hx hb dX7_isOdd_17 rfl hl (by decide) rfl (fun ls hl => ?_)
        refine lv_iinc (v := (y2_4 + (1 : Int32))) (lv' := [(2, .int (y2_4 + (1 : Int32))), (1, .int x3), (0, .int p1)]) hx hb dX7_isOdd_18 hl (k := 2) rfl (by first | rfl | decide) (by decide) rfl (fun ls hl => ?_)
        refine lv_goto (tgt := 4) hx hb dX7_isOdd_21 (by decide) ?_
        exact ih x3 (y2_4 + (1 : Int32)) hd _ _ _ hP hD hS (lv_sub hl [2, 1, 0] rfl)
  exact KL4 FU (0 : Int32) (0 : Int32) hq1 _ _ _ hP hD hS (lv_sub hl [2, 1, 0] rfl)
def rmX7_sumOf : Room := { frames := 1, cells := 0, slots := 0, locals := 22 }
theorem hp_X7_sumOf : yX7_sumOf.cls ≠ "java/lang/invoke/MethodHandle" ∧ yX7_sumOf.cls ≠ "java/lang/invoke/VarHandle" ∧ (parseMethodDescriptor yX7_sumOf.desc).map (fun d => d.parameters.length) = some 1 := by decide +kernel
theorem hv_X7_sumOf : yX7_sumOf.cls = RX7 ∧ yX7_sumOf.cls ≠ "java/lang/invoke/MethodHandle" ∧ yX7_sumOf.cls ≠ "java/lang/invoke/VarHandle" ∧ (parseMethodDescriptor yX7_sumOf.desc).map (fun d => d.parameters.length) = some 1 := by decide +kernel
set_option maxHeartbeats 4000000 in
set_option maxRecDepth 100000 in
theorem c_X7_sumOf (l : Launch) (dC : Nat → ClassId) (dI : Nat → Nat → Nat) (cI cC cT : ClassId) (h0 h1 h2 h3 h4 h5 h6 h7 : Nat) (sz : Nat) (v_state : (Nat → Int32)) (v_recorded : Int32) (v_padLength : Int32) (v_at : Int32) (v_letter : Int32) (v_hasUnder : Int32) (v_numbersMany : Int32) (p1 : Int32) (r : Int32) (hd : den_X7_sumOf v_state p1 = some r) : Met l yX7_sumOf wsX7_sumOf rmX7_sumOf (va_Pc [.ref h0, .int p1] (preB sz (dC, dI) [(h0, .inr (7, [.ref h1, .ref h2, .int v_recorded, .ref h3, .ref h4, .ref h5, .int v_padLength, .ref h6, .int v_at, .int v_letter, .int v_hasUnder, .ref h7, .int v_numbersMany])), (h1, .inl (cI, 2628, .inl v_state))] [(cI, .int), (cC, .char), (cT, .object "CassetteTones$Tape")])) (va_Qi (S := Unit) (fun v _ => v = r) (fun _ t => posB (dC, dI) [(h0, .inr (7, [.ref h1, .ref h2, .int v_recorded, .ref h3, .ref h4, .ref h5, .int v_padLength, .ref h6, .int v_at, .int v_letter, .int v_hasUnder, .ref h7, .int v_numbersMany])), (h1, .inl (cI, 2628, .inl v_state))] [(cI, .int), (cC, .char), (cT, .object "CassetteTones$Tape")] (va_A [(h0, .inr (7, [.ref h1, .ref h2, .int v_recorded, .ref h3, .ref h4, .ref h5, .int v_padLength, .ref h6, .int v_at, .int v_letter, .int v_hasUnder, .ref h7, .int v_numbersMany])), (h1, .inl (cI, 2628, .inl v_state))] sz) t) (va_A [(h0, .inr (7, [.ref h1, .ref h2, .int v_recorded, .ref h3, .ref h4, .ref h5, .int v_padLength, .ref h6, .int v_at, .int v_letter, .int v_hasUnder, .ref h7, .int v_numbersMany])), (h1, .inl (cI, 2628, .inl v_state))] sz)) 0 0 (va_A [(h0, .inr (7, [.ref h1, .ref h2, .int v_recorded, .ref h3, .ref h4, .ref h5, .int v_padLength, .ref h6, .int v_at, .int v_letter, .int v_hasUnder, .ref h7, .int v_numbersMany])), (h1, .inl (cI, 2628, .inl v_state))] sz) := by
  refine x_met_i (by decide) rfl (Nat.le_of_ble_eq_true rfl) ?_
  intro p e s m args below meth c A Q H locs ls hx hb hml hown hts hK hN hA hP hD hS hl hend
  have hown : s.vm.findClass RX7 = some m.cls := hown
  have hl : lv_has ls 4 [(0, .ref h0), (1, .int p1)] := hl
  unfold den_X7_sumOf at hd
  refine lv_iconst (v := 0) hx hb dX7_sumOf_0 (by decide) ?_
  refine lv_istore_n (lv' := [(2, .int (0 : Int32)), (0, .ref h0), (1, .int p1)]) hx hb dX7_sumOf_1 rfl hl (by decide) rfl (fun ls hl => ?_)
  refine lv_iconst (v := 0) hx hb dX7_sumOf_2 (by decide) ?_
  refine lv_istore_n (lv' := [(3, .int (0 : Int32)), (2, .int (0 : Int32)), (0, .ref h0), (1, .int p1)]) hx hb dX7_sumOf_3 rfl hl (by decide) rfl (fun ls hl => ?_)
  obtain ⟨q1, hq1, hd⟩ := bnd_some hd
  have Kq1 : ∀ (H : Heap) (locs : List Loc) (ls : Array Slot), va_P (dC, dI) vwCl [(h0, .inr (7, [.ref h1, .ref h2, .int v_recorded, .ref h3, .ref h4, .ref h5, .int v_padLength, .ref h6, .int v_at, .int v_letter, .int v_hasUnder, .ref h7, .int v_numbersMany])), (h1, .inl (cI, 2628, .inl v_state))] H → va_D A [(h0, .inr (7, [.ref h1, .ref h2, .int v_recorded, .ref h3, .ref h4, .ref h5, .int v_padLength, .ref h6, .int v_at, .int v_letter, .int v_hasUnder, .ref h7, .int v_numbersMany])), (h1, .inl (cI, 2628, .inl v_state))] → va_S A s.heap H locs → lv_has ls 4 [(2, .int q1)] → W p l e rmX7_sumOf s m args below meth c H locs 0 0 Q (F0 m 31 ls []) := by
    intro H locs ls hP hD hS hl
    refine lv_iload_n hx hb dX7_sumOf_31 rfl (lv_at hl 0 rfl) ?_
    refine lv_sipush (v := 256) hx hb dX7_sumOf_32 (by decide) ?_
    refine lv_irem hx hb dX7_sumOf_35 (by decide) ?_
    cases hd
    exact hend (by rfl) hP hD hS dX7_sumOf_36
  clear hd
  have KL5 : ∀ (fu : Nat) (y2_4 : Int32) (y3_4 : Int32) (hd : den_X7_sumOf_L4 p1 v_state fu y2_4 y3_4 = some q1) (H : Heap) (locs : List Loc) (ls : Array Slot), va_P (dC, dI) vwCl [(h0, .inr (7, [.ref h1, .ref h2, .int v_recorded, .ref h3, .ref h4, .ref h5, .int v_padLength, .ref h6, .int v_at, .int v_letter, .int v_hasUnder, .ref h7, .int v_numbersMany])), (h1, .inl (cI, 2628, .inl v_state))] H → va_D A [(h0, .inr (7, [.ref h1, .ref h2, .int v_recorded, .ref h3, .ref h4, .ref h5, .int v_padLength, .ref h6, .int v_at, .int v_letter, .int v_hasUnder, .ref h7, .int v_numbersMany])), (h1, .inl (cI, 2628, .inl v_state))] → va_S A s.heap H locs → lv_has ls 4 [(0, .ref h0), (1, .int p1), (2, .int y2_4), (3, .int y3_4)] → W p l e rmX7_sumOf s m args below meth c H locs 0 0 Q (F0 m 4 ls []) := by
    intro fu
    induction fu with
    | zero => intro y2_4 y3_4 hd; exact no_some hd
    | succ fu ih =>
      intro y2_4 y3_4 hd H locs ls hP hD hS hl
      rw [den_X7_sumOf_L4] at hd
      refine lv_iload_n hx hb dX7_sumOf_4 rfl (lv_at hl 3 rfl) ?_
      refine lv_aload_n hx hb dX7_sumOf_5 rfl (lv_at hl 0 rfl) ?_
      refine lv_iload_n hx hb dX7_sumOf_6 rfl (lv_at hl 1 rfl) ?_
      refine lv_iconst (v := 2) hx hb dX7_sumOf_7 (by decide) ?_
      obtain ⟨q2, hq2, hd⟩ := bnd_some hd
      have hPc : va_P (dC, dI) vwCl [(h0, .inr (7, [.ref h1, .ref h2, .int v_recorded, .ref h3, .ref h4, .ref h5, .int v_padLength, .ref h6, .int v_at, .int v_letter, .int v_hasUnder, .ref h7, .int v_numbersMany])), (h1, .inl (cI, 2628, .inl v_state))] _ := hP.sub [0, 1] rfl
      have hDc := hD.sub (ws' := [(h0, .inr (7, [.ref h1, .ref h2, .int v_recorded, .ref h3, .ref h4, .ref h5, .int v_padLength, .ref h6, .int v_at, .int v_letter, .int v_hasUnder, .ref h7, .int v_numbersMany])), (h1, .inl (cI, 2628, .inl v_state))]) [0, 1] (by decide) rfl
      have hFc := va_free (wc := [(h0, .inr (7, [.ref h1, .ref h2, .int v_recorded, .ref h3, .ref h4, .ref h5, .int v_padLength, .ref h6, .int v_at, .int v_letter, .int v_hasUnder, .ref h7, .int v_numbersMany])), (h1, .inl (cI, 2628, .inl v_state))]) hD hS hA [0, 1] rfl
      refine va_calli (va_runV (As := [.int p1, .int (2 : Int32)]) (rest := [.int y3_4]) ⟨hx, hb, hml, hown, hts⟩ (c_X7_part l dC dI cI cC cT h0 h1 h2 h3 h4 h5 h6 h7 H.size v_state v_recorded v_padLength v_at v_letter v_hasUnder v_numbersMany p1 (2 : Int32) q2 hq2) (cwV 2 hts gX7_sumOf_X7_part rfl rfl rfl hv_X7_part ⟨Nat.le_of_ble_eq_true rfl, Nat.le_of_ble_eq_true rfl⟩) ⟨preB_fb, va_recv hK hPc (ci := 7) (q0 := 0) rfl rfl, fun U hU hW => preB_mk hU hW hPc hK hDc hN⟩ rfl rfl hl.1 rfl (lv_room (Nat.le_of_ble_eq_true rfl)) dX7_sumOf_8 ⟨Nat.zero_le _, Nat.zero_le _⟩) hS (fun q _ h => hFc q h) hFc (fun r_ u_ t H locs ht hvm hw hB hz1 hk1 hS => ?_)
      have hw : r_ = q2 := hw
      have hw := hw.symm
      subst hw
      obtain ⟨hP, hD⟩ := x_join (ws' := [(h0, .inr (7, [.ref h1, .ref h2, .int v_recorded, .ref h3, .ref h4, .ref h5, .int v_padLength, .ref h6, .int v_at, .int v_letter, .int v_hasUnder, .ref h7, .int v_numbersMany])), (h1, .inl (cI, 2628, .inl v_state))]) hP hD [0, 1] [] rfl rfl (by decide) (by decide) hk1 hFc ht hB [0, 1] (by decide) rfl
      clear hPc hDc hFc hk1 hB ht hz1 hvm
      refine lv_icmp_ge (tgt := 31) hx hb dX7_sumOf_11 (by decide) (fun c3 => ?_) (fun c3 => ?_)
      · replace hd := ite_t c3 hd
        cases hd
        exact Kq1 _ _ _ hP hD hS (lv_sub hl [2] rfl)
      · replace hd := ite_f c3 hd
        refine lv_iload_n hx hb dX7_sumOf_14 rfl (lv_at hl 2 rfl) ?_
        refine lv_aload_n hx hb dX7_sumOf_15 rfl (lv_at hl 0 rfl) ?_
        refine lv_iload_n hx hb dX7_sumOf_16 rfl (lv_at hl 1 rfl) ?_
        refine lv_iconst (v := 3) hx hb dX7_sumOf_17 (by decide) ?_
        refine lv_iload_n hx hb dX7_sumOf_18 rfl (lv_at hl 3 rfl) ?_
        refine lv_iadd hx hb dX7_sumOf_19 ?_
        obtain ⟨q4, hq4, hd⟩ := bnd_some hd
        have hPc : va_P (dC, dI) vwCl [(h0, .inr (7, [.ref h1, .ref h2, .int v_recorded, .ref h3, .ref h4, .ref h5, .int v_padLength, .ref h6, .int v_at, .int v_letter, .int v_hasUnder, .ref h7, .int v_numbersMany])), (h1, .inl (cI, 2628, .inl v_state))] _ := hP.sub [0, 1] rfl
        have hDc := hD.sub (ws' := [(h0, .inr (7, [.ref h1, .ref h2, .int v_recorded, .ref h3, .ref h4, .ref h5, .int v_padLength, .ref h6, .int v_at, .int v_letter, .int v_hasUnder, .ref h7, .int v_numbersMany])), (h1, .inl (cI, 2628, .inl v_state))]) [0, 1] (by decide) rfl
        have hFc := va_free (wc := [(h0, .inr (7, [.ref h1, .ref h2, .int v_recorded, .ref h3, .ref h4, .ref h5, .int v_padLength, .ref h6, .int v_at, .int v_letter, .int v_hasUnder, .ref h7, .int v_numbersMany])), (h1, .inl (cI, 2628, .inl v_state))]) hD hS hA [0, 1] rfl
        refine va_calli (va_runV (As := [.int p1, .int ((3 : Int32) + y3_4)]) (rest := [.int y2_4]) ⟨hx, hb, hml, hown, hts⟩ (c_X7_part l dC dI cI cC cT h0 h1 h2 h3 h4 h5 h6 h7 H.size v_state v_recorded v_padLength v_at v_letter v_hasUnder v_numbersMany p1 ((3 : Int32) + y3_4) q4 hq4) (cwV 2 hts gX7_sumOf_X7_part rfl rfl rfl hv_X7_part ⟨Nat.le_of_ble_eq_true rfl, Nat.le_of_ble_eq_true rfl⟩) ⟨preB_fb, va_recv hK hPc (ci := 7) (q0 := 0) rfl rfl, fun U hU hW => preB_mk hU hW hPc hK hDc hN⟩ rfl rfl hl.1 rfl (lv_room (Nat.le_of_ble_eq_true rfl)) dX7_sumOf_20 ⟨Nat.zero_le _, Nat.zero_le _⟩) hS (fun q _ h => hFc q h) hFc (fun r_ u_ t H locs ht hvm hw hB hz1 hk1 hS => ?_)
        have hw : r_ = q4 := hw
        have hw := hw.symm
        subst hw
        obtain ⟨hP, hD⟩ := x_join (ws' := [(h0, .inr (7, [.ref h1, .ref h2, .int v_recorded, .ref h3, .ref h4, .ref h5, .int v_padLength, .ref h6, .int v_at, .int v_letter, .int v_hasUnder, .ref h7, .int v_numbersMany])), (h1, .inl (cI, 2628, .inl v_state))]) hP hD [0, 1] [] rfl rfl (by decide) (by decide) hk1 hFc ht hB [0, 1] (by decide) rfl
        clear hPc hDc hFc hk1 hB ht hz1 hvm
        refine lv_iadd hx hb dX7_sumOf_23 ?_
        refine lv_istore_n (lv' := [(2, .int (y2_4 + q4)), (0, .ref h0), (1, .int p1), (3, .int y3_4)]) hx hb dX7_sumOf_24 rfl hl (by decide) rfl (fun ls hl => ?_)
        refine lv_iinc (v := (y3_4 + (1 : Int32))) (lv' := [(3, .int (y3_4 + (1 : Int32))), (2, .int (y2_4 + q4)), (0, .ref h0), (1, .int p1)]) hx hb dX7_sumOf_25 hl (k := 3) rfl (by first | rfl | decide) (by decide) rfl (fun ls hl => ?_)
        refine lv_goto (tgt := 4) hx hb dX7_sumOf_28 (by decide) ?_
        exact ih (y2_4 + q4) (y3_4 + (1 : Int32)) hd _ _ _ hP hD hS (lv_sub hl [2, 3, 1, 0] rfl)
  exact KL5 FU (0 : Int32) (0 : Int32) hq1 _ _ _ hP hD hS (lv_sub hl [2, 3, 1, 0] rfl)
def rmX7_byteAt : Room := { frames := 2, cells := 0, slots := 0, locals := 45 }
theorem hp_X7_byteAt : yX7_byteAt.cls ≠ "java/lang/invoke/MethodHandle" ∧ yX7_byteAt.cls ≠ "java/lang/invoke/VarHandle" ∧ (parseMethodDescriptor yX7_byteAt.desc).map (fun d => d.parameters.length) = some 2 := by decide +kernel
theorem hv_X7_byteAt : yX7_byteAt.cls = RX7 ∧ yX7_byteAt.cls ≠ "java/lang/invoke/MethodHandle" ∧ yX7_byteAt.cls ≠ "java/lang/invoke/VarHandle" ∧ (parseMethodDescriptor yX7_byteAt.desc).map (fun d => d.parameters.length) = some 2 := by decide +kernel
set_option maxHeartbeats 4000000 in
set_option maxRecDepth 100000 in
theorem c_X7_byteAt (l : Launch) (dC : Nat → ClassId) (dI : Nat → Nat → Nat) (cI cC cT : ClassId) (h0 h1 h2 h3 h4 h5 h6 h7 : Nat) (sz : Nat) (v_state : (Nat → Int32)) (v_recorded : Int32) (v_padLength : Int32) (v_at : Int32) (v_letter : Int32) (v_hasUnder : Int32) (v_numbersMany : Int32) (p1 : Int32) (p2 : Int32) (r : Int32) (hd : den_X7_byteAt v_state p1 p2 = some r) : Met l yX7_byteAt wsX7_byteAt rmX7_byteAt (va_Pc [.ref h0, .int p1, .int p2] (preB sz (dC, dI) [(h0, .inr (7, [.ref h1, .ref h2, .int v_recorded, .ref h3, .ref h4, .ref h5, .int v_padLength, .ref h6, .int v_at, .int v_letter, .int v_hasUnder, .ref h7, .int v_numbersMany])), (h1, .inl (cI, 2628, .inl v_state))] [(cI, .int), (cC, .char), (cT, .object "CassetteTones$Tape")])) (va_Qi (S := Unit) (fun v _ => v = r) (fun _ t => posB (dC, dI) [(h0, .inr (7, [.ref h1, .ref h2, .int v_recorded, .ref h3, .ref h4, .ref h5, .int v_padLength, .ref h6, .int v_at, .int v_letter, .int v_hasUnder, .ref h7, .int v_numbersMany])), (h1, .inl (cI, 2628, .inl v_state))] [(cI, .int), (cC, .char), (cT, .object "CassetteTones$Tape")] (va_A [(h0, .inr (7, [.ref h1, .ref h2, .int v_recorded, .ref h3, .ref h4, .ref h5, .int v_padLength, .ref h6, .int v_at, .int v_letter, .int v_hasUnder, .ref h7, .int v_numbersMany])), (h1, .inl (cI, 2628, .inl v_state))] sz) t) (va_A [(h0, .inr (7, [.ref h1, .ref h2, .int v_recorded, .ref h3, .ref h4, .ref h5, .int v_padLength, .ref h6, .int v_at, .int v_letter, .int v_hasUnder, .ref h7, .int v_numbersMany])), (h1, .inl (cI, 2628, .inl v_state))] sz)) 0 0 (va_A [(h0, .inr (7, [.ref h1, .ref h2, .int v_recorded, .ref h3, .ref h4, .ref h5, .int v_padLength, .ref h6, .int v_at, .int v_letter, .int v_hasUnder, .ref h7, .int v_numbersMany])), (h1, .inl (cI, 2628, .inl v_state))] sz) := by
  refine x_met_i (by decide) rfl (Nat.le_of_ble_eq_true rfl) ?_
  intro p e s m args below meth c A Q H locs ls hx hb hml hown hts hK hN hA hP hD hS hl hend
  have hown : s.vm.findClass RX7 = some m.cls := hown
  have hl : lv_has ls 3 [(0, .ref h0), (1, .int p1), (2, .int p2)] := hl
  unfold den_X7_byteAt at hd
  refine lv_iload_n hx hb dX7_byteAt_0 rfl (lv_at hl 2 rfl) ?_
  refine lv_aload_n hx hb dX7_byteAt_1 rfl (lv_at hl 0 rfl) ?_
  refine lv_iload_n hx hb dX7_byteAt_2 rfl (lv_at hl 1 rfl) ?_
  refine lv_iconst (v := 2) hx hb dX7_byteAt_3 (by decide) ?_
  obtain ⟨q1, hq1, hd⟩ := bnd_some hd
  have hPc : va_P (dC, dI) vwCl [(h0, .inr (7, [.ref h1, .ref h2, .int v_recorded, .ref h3, .ref h4, .ref h5, .int v_padLength, .ref h6, .int v_at, .int v_letter, .int v_hasUnder, .ref h7, .int v_numbersMany])), (h1, .inl (cI, 2628, .inl v_state))] _ := hP.sub [0, 1] rfl
  have hDc := hD.sub (ws' := [(h0, .inr (7, [.ref h1, .ref h2, .int v_recorded, .ref h3, .ref h4, .ref h5, .int v_padLength, .ref h6, .int v_at, .int v_letter, .int v_hasUnder, .ref h7, .int v_numbersMany])), (h1, .inl (cI, 2628, .inl v_state))]) [0, 1] (by decide) rfl
  have hFc := va_free (wc := [(h0, .inr (7, [.ref h1, .ref h2, .int v_recorded, .ref h3, .ref h4, .ref h5, .int v_padLength, .ref h6, .int v_at, .int v_letter, .int v_hasUnder, .ref h7, .int v_numbersMany])), (h1, .inl (cI, 2628, .inl v_state))]) hD hS hA [0, 1] rfl
  refine va_calli (va_runV (As := [.int p1, .int (2 : Int32)]) (rest := [.int p2]) ⟨hx, hb, hml, hown, hts⟩ (c_X7_part l dC dI cI cC cT h0 h1 h2 h3 h4 h5 h6 h7 H.size v_state v_recorded v_padLength v_at v_letter v_hasUnder v_numbersMany p1 (2 : Int32) q1 hq1) (cwV 2 hts gX7_byteAt_X7_part rfl rfl rfl hv_X7_part ⟨Nat.le_of_ble_eq_true rfl, Nat.le_of_ble_eq_true rfl⟩) ⟨preB_fb, va_recv hK hPc (ci := 7) (q0 := 0) rfl rfl, fun U hU hW => preB_mk hU hW hPc hK hDc hN⟩ rfl rfl hl.1 rfl (lv_room (Nat.le_of_ble_eq_true rfl)) dX7_byteAt_4 ⟨Nat.zero_le _, Nat.zero_le _⟩) hS (fun q _ h => hFc q h) hFc (fun r_ u_ t H locs ht hvm hw hB hz1 hk1 hS => ?_)
  have hw : r_ = q1 := hw
  have hw := hw.symm
  subst hw
  obtain ⟨hP, hD⟩ := x_join (ws' := [(h0, .inr (7, [.ref h1, .ref h2, .int v_recorded, .ref h3, .ref h4, .ref h5, .int v_padLength, .ref h6, .int v_at, .int v_letter, .int v_hasUnder, .ref h7, .int v_numbersMany])), (h1, .inl (cI, 2628, .inl v_state))]) hP hD [0, 1] [] rfl rfl (by decide) (by decide) hk1 hFc ht hB [0, 1] (by decide) rfl
  clear hPc hDc hFc hk1 hB ht hz1 hvm
  refine lv_icmp_ne (tgt := 18) hx hb dX7_byteAt_7 (by decide) (fun c2 => ?_) (fun c2 => ?_)
  · replace hd := ite_f c2 hd
    refine lv_aload_n hx hb dX7_byteAt_18 rfl (lv_at hl 0 rfl) ?_
    refine lv_iload_n hx hb dX7_byteAt_19 rfl (lv_at hl 1 rfl) ?_
    refine lv_iconst (v := 3) hx hb dX7_byteAt_20 (by decide) ?_
    refine lv_iload_n hx hb dX7_byteAt_21 rfl (lv_at hl 2 rfl) ?_
    refine lv_iadd hx hb dX7_byteAt_22 ?_
    obtain ⟨q3, hq3, hd⟩ := bnd_some hd
    have hPc : va_P (dC, dI) vwCl [(h0, .inr (7, [.ref h1, .ref h2, .int v_recorded, .ref h3, .ref h4, .ref h5, .int v_padLength, .ref h6, .int v_at, .int v_letter, .int v_hasUnder, .ref h7, .int v_numbersMany])), (h1, .inl (cI, 2628, .inl v_state))] _ := hP.sub [0, 1] rfl
    have hDc := hD.sub (ws' := [(h0, .inr (7, [.ref h1, .ref h2, .int v_recorded, .ref h3, .ref h4, .ref h5, .int v_padLength, .ref h6, .int v_at, .int v_letter, .int v_hasUnder, .ref h7, .int v_numbersMany])), (h1, .inl (cI, 2628, .inl v_state))]) [0, 1] (by decide) rfl
    have hFc := va_free (wc := [(h0, .inr (7, [.ref h1, .ref h2, .int v_recorded, .ref h3, .ref h4, .ref h5, .int v_padLength, .ref h6, .int v_at, .int v_letter, .int v_hasUnder, .ref h7, .int v_numbersMany])), (h1, .inl (cI, 2628, .inl v_state))]) hD hS hA [0, 1] rfl
    refine va_calli (va_runV (As := [.int p1, .int ((3 : Int32) + p2)]) (rest := []) ⟨hx, hb, hml, hown, hts⟩ (c_X7_part l dC dI cI cC cT h0 h1 h2 h3 h4 h5 h6 h7 H.size v_state v_recorded v_padLength v_at v_letter v_hasUnder v_numbersMany p1 ((3 : Int32) + p2) q3 hq3) (cwV 2 hts gX7_byteAt_X7_part rfl rfl rfl hv_X7_part ⟨Nat.le_of_ble_eq_true rfl, Nat.le_of_ble_eq_true rfl⟩) ⟨preB_fb, va_recv hK hPc (ci := 7) (q0 := 0) rfl rfl, fun U hU hW => preB_mk hU hW hPc hK hDc hN⟩ rfl rfl hl.1 rfl (lv_room (Nat.le_of_ble_eq_true rfl)) dX7_byteAt_23 ⟨Nat.zero_le _, Nat.zero_le _⟩) hS (fun q _ h => hFc q h) hFc (fun r_ u_ t H locs ht hvm hw hB hz1 hk1 hS => ?_)
    have hw : r_ = q3 := hw
    have hw := hw.symm
    subst hw
    obtain ⟨hP, hD⟩ := x_join (ws' := [(h0, .inr (7, [.ref h1, .ref h2, .int v_recorded, .ref h3, .ref h4, .ref h5, .int v_padLength, .ref h6, .int v_at, .int v_letter, .int v_hasUnder, .ref h7, .int v_numbersMany])), (h1, .inl (cI, 2628, .inl v_state))]) hP hD [0, 1] [] rfl rfl (by decide) (by decide) hk1 hFc ht hB [0, 1] (by decide) rfl
    clear hPc hDc hFc hk1 hB ht hz1 hvm
    cases hd
    exact hend (by rfl) hP hD hS dX7_byteAt_26
  · replace hd := ite_t c2 hd
    refine lv_aload_n hx hb dX7_byteAt_10 rfl (lv_at hl 0 rfl) ?_
    refine lv_iload_n hx hb dX7_byteAt_11 rfl (lv_at hl 1 rfl) ?_
    obtain ⟨q4, hq4, hd⟩ := bnd_some hd
    have hPc : va_P (dC, dI) vwCl [(h0, .inr (7, [.ref h1, .ref h2, .int v_recorded, .ref h3, .ref h4, .ref h5, .int v_padLength, .ref h6, .int v_at, .int v_letter, .int v_hasUnder, .ref h7, .int v_numbersMany])), (h1, .inl (cI, 2628, .inl v_state))] _ := hP.sub [0, 1] rfl
    have hDc := hD.sub (ws' := [(h0, .inr (7, [.ref h1, .ref h2, .int v_recorded, .ref h3, .ref h4, .ref h5, .int v_padLength, .ref h6, .int v_at, .int v_letter, .int v_hasUnder, .ref h7, .int v_numbersMany])), (h1, .inl (cI, 2628, .inl v_state))]) [0, 1] (by decide) rfl
    have hFc := va_free (wc := [(h0, .inr (7, [.ref h1, .ref h2, .int v_recorded, .ref h3, .ref h4, .ref h5, .int v_padLength, .ref h6, .int v_at, .int v_letter, .int v_hasUnder, .ref h7, .int v_numbersMany])), (h1, .inl (cI, 2628, .inl v_state))]) hD hS hA [0, 1] rfl
    refine va_calli (va_runV (As := [.int p1]) (rest := []) ⟨hx, hb, hml, hown, hts⟩ (c_X7_sumOf l dC dI cI cC cT h0 h1 h2 h3 h4 h5 h6 h7 H.size v_state v_recorded v_padLength v_at v_letter v_hasUnder v_numbersMany p1 q4 hq4) (cwV 1 hts gX7_byteAt_X7_sumOf rfl rfl rfl hv_X7_sumOf ⟨Nat.le_of_ble_eq_true rfl, Nat.le_of_ble_eq_true rfl⟩) ⟨preB_fb, va_recv hK hPc (ci := 7) (q0 := 0) rfl rfl, fun U hU hW => preB_mk hU hW hPc hK hDc hN⟩ rfl rfl hl.1 rfl (lv_room (Nat.le_of_ble_eq_true rfl)) dX7_byteAt_12 ⟨Nat.zero_le _, Nat.zero_le _⟩) hS (fun q _ h => hFc q h) hFc (fun r_ u_ t H locs ht hvm hw hB hz1 hk1 hS => ?_)
    have hw : r_ = q4 := hw
    have hw := hw.symm
    subst hw
    obtain ⟨hP, hD⟩ := x_join (ws' := [(h0, .inr (7, [.ref h1, .ref h2, .int v_recorded, .ref h3, .ref h4, .ref h5, .int v_padLength, .ref h6, .int v_at, .int v_letter, .int v_hasUnder, .ref h7, .int v_numbersMany])), (h1, .inl (cI, 2628, .inl v_state))]) hP hD [0, 1] [] rfl rfl (by decide) (by decide) hk1 hFc ht hB [0, 1] (by decide) rfl
    clear hPc hDc hFc hk1 hB ht hz1 hvm
    refine lv_goto (tgt := 26) hx hb dX7_byteAt_15 (by decide) ?_
    cases hd
    exact hend (by rfl) hP hD hS dX7_byteAt_26
def rmX7_bitAt : Room := { frames := 4, cells := 0, slots := 0, locals := 87 }
theorem hp_X7_bitAt : yX7_bitAt.cls ≠ "java/lang/invoke/MethodHandle" ∧ yX7_bitAt.cls ≠ "java/lang/invoke/VarHandle" ∧ (parseMethodDescriptor yX7_bitAt.desc).map (fun d => d.parameters.length) = some 3 := by decide +kernel
theorem hv_X7_bitAt : yX7_bitAt.cls = RX7 ∧ yX7_bitAt.cls ≠ "java/lang/invoke/MethodHandle" ∧ yX7_bitAt.cls ≠ "java/lang/invoke/VarHandle" ∧ (parseMethodDescriptor yX7_bitAt.desc).map (fun d => d.parameters.length) = some 3 := by decide +kernel
set_option maxHeartbeats 4000000 in
set_option maxRecDepth 100000 in
theorem c_X7_bitAt (l : Launch) (dC : Nat → ClassId) (dI : Nat → Nat → Nat) (cI cC cT : ClassId) (h0 h1 h2 h3 h4 h5 h6 h7 : Nat) (sz : Nat) (v_state : (Nat → Int32)) (v_recorded : Int32) (v_padLength : Int32) (v_at : Int32) (v_letter : Int32) (v_hasUnder : Int32) (v_numbersMany : Int32) (p1 : Int32) (p2 : Int32) (p3 : Int32) (r : Int32) (hd : den_X7_bitAt v_state p1 p2 p3 = some r) : Met l yX7_bitAt wsX7_bitAt rmX7_bitAt (va_Pc [.ref h0, .int p1, .int p2, .int p3] (preB sz (dC, dI) [(h0, .inr (7, [.ref h1, .ref h2, .int v_recorded, .ref h3, .ref h4, .ref h5, .int v_padLength, .ref h6, .int v_at, .int v_letter, .int v_hasUnder, .ref h7, .int v_numbersMany])), (h1, .inl (cI, 2628, .inl v_state))] [(cI, .int), (cC, .char), (cT, .object "CassetteTones$Tape")])) (va_Qi (S := Unit) (fun v _ => v = r) (fun _ t => posB (dC, dI) [(h0, .inr (7, [.ref h1, .ref h2, .int v_recorded, .ref h3, .ref h4, .ref h5, .int v_padLength, .ref h6, .int v_at, .int v_letter, .int v_hasUnder, .ref h7, .int v_numbersMany])), (h1, .inl (cI, 2628, .inl v_state))] [(cI, .int), (cC, .char), (cT, .object "CassetteTones$Tape")] (va_A [(h0, .inr (7, [.ref h1, .ref h2, .int v_recorded, .ref h3, .ref h4, .ref h5, .int v_padLength, .ref h6, .int v_at, .int v_letter, .int v_hasUnder, .ref h7, .int v_numbersMany])), (h1, .inl (cI, 2628, .inl v_state))] sz) t) (va_A [(h0, .inr (7, [.ref h1, .ref h2, .int v_recorded, .ref h3, .ref h4, .ref h5, .int v_padLength, .ref h6, .int v_at, .int v_letter, .int v_hasUnder, .ref h7, .int v_numbersMany])), (h1, .inl (cI, 2628, .inl v_state))] sz)) 0 0 (va_A [(h0, .inr (7, [.ref h1, .ref h2, .int v_recorded, .ref h3, .ref h4, .ref h5, .int v_padLength, .ref h6, .int v_at, .int v_letter, .int v_hasUnder, .ref h7, .int v_numbersMany])), (h1, .inl (cI, 2628, .inl v_state))] sz) := by
  refine x_met_i (by decide) rfl (Nat.le_of_ble_eq_true rfl) ?_
  intro p e s m args below meth c A Q H locs ls hx hb hml hown hts hK hN hA hP hD hS hl hend
  have hown : s.vm.findClass RX7 = some m.cls := hown
  have hl : lv_has ls 7 [(0, .ref h0), (1, .int p1), (2, .int p2), (3, .int p3)] := hl
  unfold den_X7_bitAt at hd
  refine lv_iload_n hx hb dX7_bitAt_0 rfl (lv_at hl 3 rfl) ?_
  refine lv_iconst (v := 4) hx hb dX7_bitAt_1 (by decide) ?_
  refine lv_icmp_ge (tgt := 7) hx hb dX7_bitAt_2 (by decide) (fun c1 => ?_) (fun c1 => ?_)
  · replace hd := ite_t c1 hd
    refine lv_aload_n hx hb dX7_bitAt_7 rfl (lv_at hl 0 rfl) ?_
    refine lv_iload_n hx hb dX7_bitAt_8 rfl (lv_at hl 1 rfl) ?_
    refine lv_iload_n hx hb dX7_bitAt_9 rfl (lv_at hl 3 rfl) ?_
    refine lv_iconst (v := 4) hx hb dX7_bitAt_10 (by decide) ?_
    refine lv_isub hx hb dX7_bitAt_11 ?_
    refine lv_bipush (v := 9) hx hb dX7_bitAt_12 (by decide) ?_
    refine lv_idiv hx hb dX7_bitAt_14 (by decide) ?_
    obtain ⟨q2, hq2, hd⟩ := bnd_some hd
    have hPc : va_P (dC, dI) vwCl [(h0, .inr (7, [.ref h1, .ref h2, .int v_recorded, .ref h3, .ref h4, .ref h5, .int v_padLength, .ref h6, .int v_at, .int v_letter, .int v_hasUnder, .ref h7, .int v_numbersMany])), (h1, .inl (cI, 2628, .inl v_state))] _ := hP.sub [0, 1] rfl
    have hDc := hD.sub (ws' := [(h0, .inr (7, [.ref h1, .ref h2, .int v_recorded, .ref h3, .ref h4, .ref h5, .int v_padLength, .ref h6, .int v_at, .int v_letter, .int v_hasUnder, .ref h7, .int v_numbersMany])), (h1, .inl (cI, 2628, .inl v_state))]) [0, 1] (by decide) rfl
    have hFc := va_free (wc := [(h0, .inr (7, [.ref h1, .ref h2, .int v_recorded, .ref h3, .ref h4, .ref h5, .int v_padLength, .ref h6, .int v_at, .int v_letter, .int v_hasUnder, .ref h7, .int v_numbersMany])), (h1, .inl (cI, 2628, .inl v_state))]) hD hS hA [0, 1] rfl
    refine va_calli (va_runV (As := [.int p1, .int ((p3 - (4 : Int32)) / (9 : Int32))]) (rest := []) ⟨hx, hb, hml, hown, hts⟩ (c_X7_byteAt l dC dI cI cC cT h0 h1 h2 h3 h4 h5 h6 h7 H.size v_state v_recorded v_padLength v_at v_letter v_hasUnder v_numbersMany p1 ((p3 - (4 : Int32)) / (9 : Int32)) q2 hq2) (cwV 2 hts gX7_bitAt_X7_byteAt rfl rfl rfl hv_X7_byteAt ⟨Nat.le_of_ble_eq_true rfl, Nat.le_of_ble_eq_true rfl⟩) ⟨preB_fb, va_recv hK hPc (ci := 7) (q0 := 0) rfl rfl, fun U hU hW => preB_mk hU hW hPc hK hDc hN⟩ rfl rfl hl.1 rfl (lv_room (Nat.le_of_ble_eq_true rfl)) dX7_bitAt_15 ⟨Nat.zero_le _, Nat.zero_le _⟩) hS (fun q _ h => hFc q h) hFc (fun r_ u_ t H locs ht hvm hw hB hz1 hk1 hS => ?_)
    have hw : r_ = q2 := hw
    have hw := hw.symm
    subst hw
    obtain ⟨hP, hD⟩ := x_join (ws' := [(h0, .inr (7, [.ref h1, .ref h2, .int v_recorded, .ref h3, .ref h4, .ref h5, .int v_padLength, .ref h6, .int v_at, .int v_letter, .int v_hasUnder, .ref h7, .int v_numbersMany])), (h1, .inl (cI, 2628, .inl v_state))]) hP hD [0, 1] [] rfl rfl (by decide) (by decide) hk1 hFc ht hB [0, 1] (by decide) rfl
    clear hPc hDc hFc hk1 hB ht hz1 hvm
    refine lv_istore (lv' := [(4, .int q2), (0, .ref h0), (1, .int p1), (2, .int p2), (3, .int p3)]) hx hb dX7_bitAt_18 hl (by decide) rfl (fun ls hl => ?_)
    refine lv_iload_n hx hb dX7_bitAt_20 rfl (lv_at hl 4 rfl) ?_
    refine lv_iconst (v := 4) hx hb dX7_bitAt_21 (by decide) ?_
    refine lv_isub hx hb dX7_bitAt_22 ?_
    refine lv_bipush (v := 9) hx hb dX7_bitAt_23 (by decide) ?_
    refine lv_irem hx hb dX7_bitAt_25 (by decide) ?_
    refine lv_topi (fun x3 ex3 => ?_)
    replace hd := nm_some ex3 hd
    refine lv_istore (lv' := [(5, .int x3), (4, .int q2), (0, .ref h0), (1, .int p1), (2, .int p2), (3, .int p3)]) hx hb dX7_bitAt_26 hl (by decide) rfl (fun ls hl => ?_)
    refine lv_iload hx hb dX7_bitAt_28 (lv_at hl 0 rfl) ?_
    refine lv_bipush (v := 8) hx hb dX7_bitAt_30 (by decide) ?_
    obtain ⟨q4, hq4, hd⟩ := bnd_some hd
    have Kq4 : ∀ (H : Heap) (locs : List Loc) (ls : Array Slot), va_P (dC, dI) vwCl [(h0, .inr (7, [.ref h1, .ref h2, .int v_recorded, .ref h3, .ref h4, .ref h5, .int v_padLength, .ref h6, .int v_at, .int v_letter, .int v_hasUnder, .ref h7, .int v_numbersMany])), (h1, .inl (cI, 2628, .inl v_state))] H → va_D A [(h0, .inr (7, [.ref h1, .ref h2, .int v_recorded, .ref h3, .ref h4, .ref h5, .int v_padLength, .ref h6, .int v_at, .int v_letter, .int v_hasUnder, .ref h7, .int v_numbersMany])), (h1, .inl (cI, 2628, .inl v_state))] → va_S A s.heap H locs → lv_has ls 7 [(0, .ref h0), (1, .int p1), (2, .int p2), (3, .int p3)] → W p l e rmX7_bitAt s m args below meth c H locs 0 0 Q (F0 m 50 ls [.int q4]) := by
      intro H locs ls hP hD hS hl
      refine lv_istore (lv' := [(6, .int q4), (0, .ref h0), (1, .int p1), (2, .int p2), (3, .int p3)]) hx hb dX7_bitAt_50 hl (by decide) rfl (fun ls hl => ?_)
      refine lv_iload hx hb dX7_bitAt_52 (lv_at hl 0 rfl) ?_
      refine lv_aload_n hx hb dX7_bitAt_54 rfl (lv_at hl 1 rfl) ?_
      refine lv_aload_n hx hb dX7_bitAt_55 rfl (lv_at hl 1 rfl) ?_
      refine lv_iload_n hx hb dX7_bitAt_56 rfl (lv_at hl 2 rfl) ?_
      obtain ⟨q5, hq5, hd⟩ := bnd_some hd
      have hPc : va_P (dC, dI) vwCl [(h0, .inr (7, [.ref h1, .ref h2, .int v_recorded, .ref h3, .ref h4, .ref h5, .int v_padLength, .ref h6, .int v_at, .int v_letter, .int v_hasUnder, .ref h7, .int v_numbersMany])), (h1, .inl (cI, 2628, .inl v_state))] _ := hP.sub [0, 1] rfl
      have hDc := hD.sub (ws' := [(h0, .inr (7, [.ref h1, .ref h2, .int v_recorded, .ref h3, .ref h4, .ref h5, .int v_padLength, .ref h6, .int v_at, .int v_letter, .int v_hasUnder, .ref h7, .int v_numbersMany])), (h1, .inl (cI, 2628, .inl v_state))]) [0, 1] (by decide) rfl
      have hFc := va_free (wc := [(h0, .inr (7, [.ref h1, .ref h2, .int v_recorded, .ref h3, .ref h4, .ref h5, .int v_padLength, .ref h6, .int v_at, .int v_letter, .int v_hasUnder, .ref h7, .int v_numbersMany])), (h1, .inl (cI, 2628, .inl v_state))]) hD hS hA [0, 1] rfl
      refine va_calli (va_runV (As := [.int p1]) (rest := [.ref h0, .int q4]) ⟨hx, hb, hml, hown, hts⟩ (c_X7_firstOf l dC dI cI cC cT h0 h1 h2 h3 h4 h5 h6 h7 H.size v_state v_recorded v_padLength v_at v_letter v_hasUnder v_numbersMany p1 q5 hq5) (cwV 1 hts gX7_bitAt_X7_firstOf rfl rfl rfl hv_X7_firstOf ⟨Nat.le_of_ble_eq_true rfl, Nat.le_of_ble_eq_true rfl⟩) ⟨preB_fb, va_recv hK hPc (ci := 7) (q0 := 0) rfl rfl, fun U hU hW => preB_mk hU hW hPc hK hDc hN⟩ rfl rfl hl.1 rfl (lv_room (Nat.le_of_ble_eq_true rfl)) dX7_bitAt_57 ⟨Nat.zero_le _, Nat.zero_le _⟩) hS (fun q _ h => hFc q h) hFc (fun r_ u_ t H locs ht hvm hw hB hz1 hk1 hS => ?_)
      have hw : r_ = q5 := hw
      have hw := hw.symm
      subst hw
      obtain ⟨hP, hD⟩ := x_join (ws' := [(h0, .inr (7, [.ref h1, .ref h2, .int v_recorded, .ref h3, .ref h4, .ref h5, .int v_padLength, .ref h6, .int v_at, .int v_letter, .int v_hasUnder, .ref h7, .int v_numbersMany])), (h1, .inl (cI, 2628, .inl v_state))]) hP hD [0, 1] [] rfl rfl (by decide) (by decide) hk1 hFc ht hB [0, 1] (by decide) rfl
      clear hPc hDc hFc hk1 hB ht hz1 hvm
      refine lv_iload_n hx hb dX7_bitAt_60 rfl (lv_at hl 3 rfl) ?_
      refine lv_aload_n hx hb dX7_bitAt_61 rfl (lv_at hl 1 rfl) ?_
      refine lv_iload_n hx hb dX7_bitAt_62 rfl (lv_at hl 2 rfl) ?_
      obtain ⟨q6, hq6, hd⟩ := bnd_some hd
      have hPc : va_P (dC, dI) vwCl [(h0, .inr (7, [.ref h1, .ref h2, .int v_recorded, .ref h3, .ref h4, .ref h5, .int v_padLength, .ref h6, .int v_at, .int v_letter, .int v_hasUnder, .ref h7, .int v_numbersMany])), (h1, .inl (cI, 2628, .inl v_state))] _ := hP.sub [0, 1] rfl
      have hDc := hD.sub (ws' := [(h0, .inr (7, [.ref h1, .ref h2, .int v_recorded, .ref h3, .ref h4, .ref h5, .int v_padLength, .ref h6, .int v_at, .int v_letter, .int v_hasUnder, .ref h7, .int v_numbersMany])), (h1, .inl (cI, 2628, .inl v_state))]) [0, 1] (by decide) rfl
      have hFc := va_free (wc := [(h0, .inr (7, [.ref h1, .ref h2, .int v_recorded, .ref h3, .ref h4, .ref h5, .int v_padLength, .ref h6, .int v_at, .int v_letter, .int v_hasUnder, .ref h7, .int v_numbersMany])), (h1, .inl (cI, 2628, .inl v_state))]) hD hS hA [0, 1] rfl
      refine va_calli (va_runV (As := [.int p1]) (rest := [.int p2, .int q5, .ref h0, .int q4]) ⟨hx, hb, hml, hown, hts⟩ (c_X7_tellingSize l dC dI cI cC cT h0 h1 h2 h3 h4 h5 h6 h7 H.size v_state v_recorded v_padLength v_at v_letter v_hasUnder v_numbersMany p1 q6 hq6) (cwV 1 hts gX7_bitAt_X7_tellingSize rfl rfl rfl hv_X7_tellingSize ⟨Nat.le_of_ble_eq_true rfl, Nat.le_of_ble_eq_true rfl⟩) ⟨preB_fb, va_recv hK hPc (ci := 7) (q0 := 0) rfl rfl, fun U hU hW => preB_mk hU hW hPc hK hDc hN⟩ rfl rfl hl.1 rfl (lv_room (Nat.le_of_ble_eq_true rfl)) dX7_bitAt_63 ⟨Nat.zero_le _, Nat.zero_le _⟩) hS (fun q _ h => hFc q h) hFc (fun r_ u_ t H locs ht hvm hw hB hz1 hk1 hS => ?_)
      have hw : r_ = q6 := hw
      have hw := hw.symm
      subst hw
      obtain ⟨hP, hD⟩ := x_join (ws' := [(h0, .inr (7, [.ref h1, .ref h2, .int v_recorded, .ref h3, .ref h4, .ref h5, .int v_padLength, .ref h6, .int v_at, .int v_letter, .int v_hasUnder, .ref h7, .int v_numbersMany])), (h1, .inl (cI, 2628, .inl v_state))]) hP hD [0, 1] [] rfl rfl (by decide) (by decide) hk1 hFc ht hB [0, 1] (by decide) rfl
      clear hPc hDc hFc hk1 hB ht hz1 hvm
      refine lv_imul hx hb dX7_bitAt_66 ?_
      refine lv_iadd hx hb dX7_bitAt_67 ?_
      refine lv_iload_n hx hb dX7_bitAt_68 rfl (lv_at hl 4 rfl) ?_
      refine lv_iadd hx hb dX7_bitAt_69 ?_
      obtain ⟨q7, hq7, hd⟩ := bnd_some hd
      have hPc : va_P (dC, dI) vwCl [(h0, .inr (7, [.ref h1, .ref h2, .int v_recorded, .ref h3, .ref h4, .ref h5, .int v_padLength, .ref h6, .int v_at, .int v_letter, .int v_hasUnder, .ref h7, .int v_numbersMany])), (h1, .inl (cI, 2628, .inl v_state))] _ := hP.sub [0, 1] rfl
      have hDc := hD.sub (ws' := [(h0, .inr (7, [.ref h1, .ref h2, .int v_recorded, .ref h3, .ref h4, .ref h5, .int v_padLength, .ref h6, .int v_at, .int v_letter, .int v_hasUnder, .ref h7, .int v_numbersMany])), (h1, .inl (cI, 2628, .inl v_state))]) [0, 1] (by decide) rfl
      have hFc := va_free (wc := [(h0, .inr (7, [.ref h1, .ref h2, .int v_recorded, .ref h3, .ref h4, .ref h5, .int v_padLength, .ref h6, .int v_at, .int v_letter, .int v_hasUnder, .ref h7, .int v_numbersMany])), (h1, .inl (cI, 2628, .inl v_state))]) hD hS hA [0, 1] rfl
      refine va_calli (va_runV (As := [.int ((q5 + (p2 * q6)) + p3)]) (rest := [.int q4]) ⟨hx, hb, hml, hown, hts⟩ (c_X7_badness l dC dI cI cC cT h0 h1 h2 h3 h4 h5 h6 h7 H.size v_state v_recorded v_padLength v_at v_letter v_hasUnder v_numbersMany ((q5 + (p2 * q6)) + p3) q7 hq7) (cwV 1 hts gX7_bitAt_X7_badness rfl rfl rfl hv_X7_badness ⟨Nat.le_of_ble_eq_true rfl, Nat.le_of_ble_eq_true rfl⟩) ⟨preB_fb, va_recv hK hPc (ci := 7) (q0 := 0) rfl rfl, fun U hU hW => preB_mk hU hW hPc hK hDc hN⟩ rfl rfl hl.1 rfl (lv_room (Nat.le_of_ble_eq_true rfl)) dX7_bitAt_70 ⟨Nat.zero_le _, Nat.zero_le _⟩) hS (fun q _ h => hFc q h) hFc (fun r_ u_ t H locs ht hvm hw hB hz1 hk1 hS => ?_)
      have hw : r_ = q7 := hw
      have hw := hw.symm
      subst hw
      obtain ⟨hP, hD⟩ := x_join (ws' := [(h0, .inr (7, [.ref h1, .ref h2, .int v_recorded, .ref h3, .ref h4, .ref h5, .int v_padLength, .ref h6, .int v_at, .int v_letter, .int v_hasUnder, .ref h7, .int v_numbersMany])), (h1, .inl (cI, 2628, .inl v_state))]) hP hD [0, 1] [] rfl rfl (by decide) (by decide) hk1 hFc ht hB [0, 1] (by decide) rfl
      clear hPc hDc hFc hk1 hB ht hz1 hvm
      refine lv_ixor hx hb dX7_bitAt_73 ?_
      cases hd
      exact hend (by rfl) hP hD hS dX7_bitAt_74
    replace hd := hq4
    clear hq4
    refine lv_icmp_ge (tgt := 45) hx hb dX7_bitAt_32 (by decide) (fun c8 => ?_) (fun c8 => ?_)
    · replace hd := ite_t c8 hd
      refine lv_iload hx hb dX7_bitAt_45 (lv_at hl 1 rfl) ?_
      obtain ⟨q9, hq9, hd⟩ := bnd_some hd
      have hPc : va_P (dC, dI) vwCl [] _ := hP.sub [] rfl
      have hDc := hD.sub (ws' := []) [] (by decide) rfl
      have hFc := va_free (wc := []) hD hS hA [] rfl
      refine va_calli (va_runS (As := [.int q2]) (rest := []) ⟨hx, hb, hml, hown, hts⟩ (c_X7_isOdd l dC dI cI cC cT H.size q2 q9 hq9) (va_cwS 1 hts gX7_bitAt_X7_isOdd rfl rfl rfl hp_X7_isOdd ⟨Nat.le_of_ble_eq_true rfl, Nat.le_of_ble_eq_true rfl⟩) ⟨preB_fb, fun U hU hW => preB_mk hU hW hPc hK hDc hN⟩ rfl rfl hl.1 rfl (lv_room (Nat.le_of_ble_eq_true rfl)) dX7_bitAt_47 ⟨Nat.zero_le _, Nat.zero_le _⟩) hS (fun q _ h => hFc q h) hFc (fun r_ u_ t H locs ht hvm hw hB hz1 hk1 hS => ?_)
      have hw : r_ = q9 := hw
      have hw := hw.symm
      subst hw
      obtain ⟨hP, hD⟩ := x_join (ws' := [(h0, .inr (7, [.ref h1, .ref h2, .int v_recorded, .ref h3, .ref h4, .ref h5, .int v_padLength, .ref h6, .int v_at, .int v_letter, .int v_hasUnder, .ref h7, .int v_numbersMany])), (h1, .inl (cI, 2628, .inl v_state))]) hP hD [] [0, 1] rfl rfl (by decide) (by decide) hk1 hFc ht hB [0, 1] (by decide) rfl
      clear hPc hDc hFc hk1 hB ht hz1 hvm
      cases hd
      exact Kq4 _ _ _ hP hD hS (lv_sub hl [2, 3, 4, 5] rfl)
    · replace hd := ite_f c8 hd
      refine lv_iload hx hb dX7_bitAt_35 (lv_at hl 1 rfl) ?_
      refine lv_iload hx hb dX7_bitAt_37 (lv_at hl 0 rfl) ?_
      refine lv_ishr hx hb dX7_bitAt_39 ?_
      refine lv_iconst (v := 1) hx hb dX7_bitAt_40 (by decide) ?_
      refine lv_iand hx hb dX7_bitAt_41 ?_
      refine lv_goto (tgt := 50) hx hb dX7_bitAt_42 (by decide) ?_
      cases hd
      exact Kq4 _ _ _ hP hD hS (lv_sub hl [2, 3, 4, 5] rfl)
  · replace hd := ite_f c1 hd
    refine lv_iconst (v := 0) hx hb dX7_bitAt_5 (by decide) ?_
    cases hd
    exact hend (by rfl) hP hD hS dX7_bitAt_6
def rmX7_counterOf : Room := { frames := 0, cells := 0, slots := 0, locals := 0 }
theorem kX7_counterOf_1 : (Cond.fieldLink RX7 7 "CassetteTonesModel" "state" "[I") ∈ wsX7_counterOf := List.mem_of_getElem? (i := 1) (by decide +kernel)
theorem inX7_counterOf_X7 : ∀ w ∈ wsX70, w ∈ wsX7_counterOf := by decide +kernel
theorem hp_X7_counterOf : yX7_counterOf.cls ≠ "java/lang/invoke/MethodHandle" ∧ yX7_counterOf.cls ≠ "java/lang/invoke/VarHandle" ∧ (parseMethodDescriptor yX7_counterOf.desc).map (fun d => d.parameters.length) = some 1 := by decide +kernel
theorem hv_X7_counterOf : yX7_counterOf.cls = RX7 ∧ yX7_counterOf.cls ≠ "java/lang/invoke/MethodHandle" ∧ yX7_counterOf.cls ≠ "java/lang/invoke/VarHandle" ∧ (parseMethodDescriptor yX7_counterOf.desc).map (fun d => d.parameters.length) = some 1 := by decide +kernel
set_option maxHeartbeats 4000000 in
set_option maxRecDepth 100000 in
theorem c_X7_counterOf (l : Launch) (dC : Nat → ClassId) (dI : Nat → Nat → Nat) (cI cC cT : ClassId) (h0 h1 h2 h3 h4 h5 h6 h7 : Nat) (sz : Nat) (v_state : (Nat → Int32)) (v_recorded : Int32) (v_padLength : Int32) (v_at : Int32) (v_letter : Int32) (v_hasUnder : Int32) (v_numbersMany : Int32) (p1 : Int32) (r : Int32) (hd : den_X7_counterOf v_state p1 = some r) : Met l yX7_counterOf wsX7_counterOf rmX7_counterOf (va_Pc [.ref h0, .int p1] (preB sz (dC, dI) [(h0, .inr (7, [.ref h1, .ref h2, .int v_recorded, .ref h3, .ref h4, .ref h5, .int v_padLength, .ref h6, .int v_at, .int v_letter, .int v_hasUnder, .ref h7, .int v_numbersMany])), (h1, .inl (cI, 2628, .inl v_state))] [(cI, .int), (cC, .char), (cT, .object "CassetteTones$Tape")])) (va_Qi (S := Unit) (fun v _ => v = r) (fun _ t => posB (dC, dI) [(h0, .inr (7, [.ref h1, .ref h2, .int v_recorded, .ref h3, .ref h4, .ref h5, .int v_padLength, .ref h6, .int v_at, .int v_letter, .int v_hasUnder, .ref h7, .int v_numbersMany])), (h1, .inl (cI, 2628, .inl v_state))] [(cI, .int), (cC, .char), (cT, .object "CassetteTones$Tape")] (va_A [(h0, .inr (7, [.ref h1, .ref h2, .int v_recorded, .ref h3, .ref h4, .ref h5, .int v_padLength, .ref h6, .int v_at, .int v_letter, .int v_hasUnder, .ref h7, .int v_numbersMany])), (h1, .inl (cI, 2628, .inl v_state))] sz) t) (va_A [(h0, .inr (7, [.ref h1, .ref h2, .int v_recorded, .ref h3, .ref h4, .ref h5, .int v_padLength, .ref h6, .int v_at, .int v_letter, .int v_hasUnder, .ref h7, .int v_numbersMany])), (h1, .inl (cI, 2628, .inl v_state))] sz)) 0 0 (va_A [(h0, .inr (7, [.ref h1, .ref h2, .int v_recorded, .ref h3, .ref h4, .ref h5, .int v_padLength, .ref h6, .int v_at, .int v_letter, .int v_hasUnder, .ref h7, .int v_numbersMany])), (h1, .inl (cI, 2628, .inl v_state))] sz) := by
  refine x_met_i (by decide) rfl (Nat.le_of_ble_eq_true rfl) ?_
  intro p e s m args below meth c A Q H locs ls hx hb hml hown hts hK hN hA hP hD hS hl hend
  have hown : s.vm.findClass RX7 = some m.cls := hown
  have hl : lv_has ls 2 [(0, .ref h0), (1, .int p1)] := hl
  unfold den_X7_counterOf at hd
  refine lv_iload_n hx hb dX7_counterOf_0 rfl (lv_at hl 1 rfl) ?_
  refine lv_iload_n hx hb dX7_counterOf_1 rfl (lv_at hl 1 rfl) ?_
  refine lv_aload_n hx hb dX7_counterOf_2 rfl (lv_at hl 0 rfl) ?_
  refine va_get (D := (dC, dI)) (ci := 7) (v := .ref h1) (C := RX7) (T := TX7) (N := 13) hx hb hts inX7_counterOf_X7 hown hK hP 0 rfl rfl 0 (by decide) (hts _ kX7_counterOf_1) (fun _ h9 => h9) rfl dX7_counterOf_3 ?_
  refine lv_iconst (v := 2) hx hb dX7_counterOf_6 (by decide) ?_
  refine x_iald (k := 2) hx hb hK hP 1 0 rfl rfl (inb_in (by decide)) rfl dX7_counterOf_7 ?_
  refine lv_imul hx hb dX7_counterOf_8 ?_
  refine lv_bipush (v := 100) hx hb dX7_counterOf_9 (by decide) ?_
  refine lv_idiv hx hb dX7_counterOf_11 (by decide) ?_
  refine lv_isub hx hb dX7_counterOf_12 ?_
  refine lv_sipush (v := 1000) hx hb dX7_counterOf_13 (by decide) ?_
  refine lv_irem hx hb dX7_counterOf_16 (by decide) ?_
  cases hd
  exact hend (by rfl) hP hD hS dX7_counterOf_17
def rmX7_isHeard : Room := { frames := 1, cells := 0, slots := 0, locals := 21 }
theorem kX7_isHeard_1 : (Cond.fieldLink RX7 7 "CassetteTonesModel" "state" "[I") ∈ wsX7_isHeard := List.mem_of_getElem? (i := 1) (by decide +kernel)
theorem inX7_isHeard_X7 : ∀ w ∈ wsX70, w ∈ wsX7_isHeard := by decide +kernel
theorem hp_X7_isHeard : yX7_isHeard.cls ≠ "java/lang/invoke/MethodHandle" ∧ yX7_isHeard.cls ≠ "java/lang/invoke/VarHandle" ∧ (parseMethodDescriptor yX7_isHeard.desc).map (fun d => d.parameters.length) = some 1 := by decide +kernel
theorem hv_X7_isHeard : yX7_isHeard.cls = RX7 ∧ yX7_isHeard.cls ≠ "java/lang/invoke/MethodHandle" ∧ yX7_isHeard.cls ≠ "java/lang/invoke/VarHandle" ∧ (parseMethodDescriptor yX7_isHeard.desc).map (fun d => d.parameters.length) = some 1 := by decide +kernel
set_option maxHeartbeats 4000000 in
set_option maxRecDepth 100000 in
theorem c_X7_isHeard (l : Launch) (dC : Nat → ClassId) (dI : Nat → Nat → Nat) (cI cC cT : ClassId) (h0 h1 h2 h3 h4 h5 h6 h7 : Nat) (sz : Nat) (v_state : (Nat → Int32)) (v_recorded : Int32) (v_padLength : Int32) (v_at : Int32) (v_letter : Int32) (v_hasUnder : Int32) (v_numbersMany : Int32) (p1 : Int32) (r : Int32) (hd : den_X7_isHeard v_state p1 = some r) : Met l yX7_isHeard wsX7_isHeard rmX7_isHeard (va_Pc [.ref h0, .int p1] (preB sz (dC, dI) [(h0, .inr (7, [.ref h1, .ref h2, .int v_recorded, .ref h3, .ref h4, .ref h5, .int v_padLength, .ref h6, .int v_at, .int v_letter, .int v_hasUnder, .ref h7, .int v_numbersMany])), (h1, .inl (cI, 2628, .inl v_state))] [(cI, .int), (cC, .char), (cT, .object "CassetteTones$Tape")])) (va_Qi (S := Unit) (fun v _ => v = r) (fun _ t => posB (dC, dI) [(h0, .inr (7, [.ref h1, .ref h2, .int v_recorded, .ref h3, .ref h4, .ref h5, .int v_padLength, .ref h6, .int v_at, .int v_letter, .int v_hasUnder, .ref h7, .int v_numbersMany])), (h1, .inl (cI, 2628, .inl v_state))] [(cI, .int), (cC, .char), (cT, .object "CassetteTones$Tape")] (va_A [(h0, .inr (7, [.ref h1, .ref h2, .int v_recorded, .ref h3, .ref h4, .ref h5, .int v_padLength, .ref h6, .int v_at, .int v_letter, .int v_hasUnder, .ref h7, .int v_numbersMany])), (h1, .inl (cI, 2628, .inl v_state))] sz) t) (va_A [(h0, .inr (7, [.ref h1, .ref h2, .int v_recorded, .ref h3, .ref h4, .ref h5, .int v_padLength, .ref h6, .int v_at, .int v_letter, .int v_hasUnder, .ref h7, .int v_numbersMany])), (h1, .inl (cI, 2628, .inl v_state))] sz)) 0 0 (va_A [(h0, .inr (7, [.ref h1, .ref h2, .int v_recorded, .ref h3, .ref h4, .ref h5, .int v_padLength, .ref h6, .int v_at, .int v_letter, .int v_hasUnder, .ref h7, .int v_numbersMany])), (h1, .inl (cI, 2628, .inl v_state))] sz) := by
  refine x_met_z (by decide) rfl (Nat.le_of_ble_eq_true rfl) ?_
  intro p e s m args below meth c A Q H locs ls hx hb hml hown hts hK hN hA hP hD hS hl hend
  have hown : s.vm.findClass RX7 = some m.cls := hown
  have hl : lv_has ls 2 [(0, .ref h0), (1, .int p1)] := hl
  unfold den_X7_isHeard at hd
  refine lv_aload_n hx hb dX7_isHeard_0 rfl (lv_at hl 0 rfl) ?_
  refine lv_iload_n hx hb dX7_isHeard_1 rfl (lv_at hl 1 rfl) ?_
  obtain ⟨q1, hq1, hd⟩ := bnd_some hd
  have hPc : va_P (dC, dI) vwCl [(h0, .inr (7, [.ref h1, .ref h2, .int v_recorded, .ref h3, .ref h4, .ref h5, .int v_padLength, .ref h6, .int v_at, .int v_letter, .int v_hasUnder, .ref h7, .int v_numbersMany])), (h1, .inl (cI, 2628, .inl v_state))] _ := hP.sub [0, 1] rfl
  have hDc := hD.sub (ws' := [(h0, .inr (7, [.ref h1, .ref h2, .int v_recorded, .ref h3, .ref h4, .ref h5, .int v_padLength, .ref h6, .int v_at, .int v_letter, .int v_hasUnder, .ref h7, .int v_numbersMany])), (h1, .inl (cI, 2628, .inl v_state))]) [0, 1] (by decide) rfl
  have hFc := va_free (wc := [(h0, .inr (7, [.ref h1, .ref h2, .int v_recorded, .ref h3, .ref h4, .ref h5, .int v_padLength, .ref h6, .int v_at, .int v_letter, .int v_hasUnder, .ref h7, .int v_numbersMany])), (h1, .inl (cI, 2628, .inl v_state))]) hD hS hA [0, 1] rfl
  refine va_calli (va_runV (As := [.int p1]) (rest := []) ⟨hx, hb, hml, hown, hts⟩ (c_X7_volumeOf l dC dI cI cC cT h0 h1 h2 h3 h4 h5 h6 h7 H.size v_state v_recorded v_padLength v_at v_letter v_hasUnder v_numbersMany p1 q1 hq1) (cwV 1 hts gX7_isHeard_X7_volumeOf rfl rfl rfl hv_X7_volumeOf ⟨Nat.le_of_ble_eq_true rfl, Nat.le_of_ble_eq_true rfl⟩) ⟨preB_fb, va_recv hK hPc (ci := 7) (q0 := 0) rfl rfl, fun U hU hW => preB_mk hU hW hPc hK hDc hN⟩ rfl rfl hl.1 rfl (lv_room (Nat.le_of_ble_eq_true rfl)) dX7_isHeard_2 ⟨Nat.zero_le _, Nat.zero_le _⟩) hS (fun q _ h => hFc q h) hFc (fun r_ u_ t H locs ht hvm hw hB hz1 hk1 hS => ?_)
  have hw : r_ = q1 := hw
  have hw := hw.symm
  subst hw
  obtain ⟨hP, hD⟩ := x_join (ws' := [(h0, .inr (7, [.ref h1, .ref h2, .int v_recorded, .ref h3, .ref h4, .ref h5, .int v_padLength, .ref h6, .int v_at, .int v_letter, .int v_hasUnder, .ref h7, .int v_numbersMany])), (h1, .inl (cI, 2628, .inl v_state))]) hP hD [0, 1] [] rfl rfl (by decide) (by decide) hk1 hFc ht hB [0, 1] (by decide) rfl
  clear hPc hDc hFc hk1 hB ht hz1 hvm
  refine lv_aload_n hx hb dX7_isHeard_5 rfl (lv_at hl 0 rfl) ?_
  refine va_get (D := (dC, dI)) (ci := 7) (v := .ref h1) (C := RX7) (T := TX7) (N := 13) hx hb hts inX7_isHeard_X7 hown hK hP 0 rfl rfl 0 (by decide) (hts _ kX7_isHeard_1) (fun _ h9 => h9) rfl dX7_isHeard_6 ?_
  refine lv_iconst (v := 1) hx hb dX7_isHeard_9 (by decide) ?_
  refine x_iald (k := 1) hx hb hK hP 1 0 rfl rfl (inb_in (by decide)) rfl dX7_isHeard_10 ?_
  refine lv_icmp_lt (tgt := 18) hx hb dX7_isHeard_11 (by decide) (fun c2 => ?_) (fun c2 => ?_)
  · replace hd := ite_t c2 hd
    refine lv_iconst (v := 0) hx hb dX7_isHeard_18 (by decide) ?_
    cases hd
    exact hend (by rfl) (by rfl) hP hD hS dX7_isHeard_19
  · replace hd := ite_f c2 hd
    refine lv_iconst (v := 1) hx hb dX7_isHeard_14 (by decide) ?_
    refine lv_goto (tgt := 19) hx hb dX7_isHeard_15 (by decide) ?_
    cases hd
    exact hend (by rfl) (by rfl) hP hD hS dX7_isHeard_19
def rmX7_isLeaderLost : Room := { frames := 4, cells := 0, slots := 0, locals := 87 }
theorem hp_X7_isLeaderLost : yX7_isLeaderLost.cls ≠ "java/lang/invoke/MethodHandle" ∧ yX7_isLeaderLost.cls ≠ "java/lang/invoke/VarHandle" ∧ (parseMethodDescriptor yX7_isLeaderLost.desc).map (fun d => d.parameters.length) = some 2 := by decide +kernel
theorem hv_X7_isLeaderLost : yX7_isLeaderLost.cls = RX7 ∧ yX7_isLeaderLost.cls ≠ "java/lang/invoke/MethodHandle" ∧ yX7_isLeaderLost.cls ≠ "java/lang/invoke/VarHandle" ∧ (parseMethodDescriptor yX7_isLeaderLost.desc).map (fun d => d.parameters.length) = some 2 := by decide +kernel
set_option maxHeartbeats 4000000 in
set_option maxRecDepth 100000 in
theorem c_X7_isLeaderLost (l : Launch) (dC : Nat → ClassId) (dI : Nat → Nat → Nat) (cI cC cT : ClassId) (h0 h1 h2 h3 h4 h5 h6 h7 : Nat) (sz : Nat) (v_state : (Nat → Int32)) (v_recorded : Int32) (v_padLength : Int32) (v_at : Int32) (v_letter : Int32) (v_hasUnder : Int32) (v_numbersMany : Int32) (p1 : Int32) (p2 : Int32) (r : Int32) (hd : den_X7_isLeaderLost v_state p1 p2 = some r) : Met l yX7_isLeaderLost wsX7_isLeaderLost rmX7_isLeaderLost (va_Pc [.ref h0, .int p1, .int p2] (preB sz (dC, dI) [(h0, .inr (7, [.ref h1, .ref h2, .int v_recorded, .ref h3, .ref h4, .ref h5, .int v_padLength, .ref h6, .int v_at, .int v_letter, .int v_hasUnder, .ref h7, .int v_numbersMany])), (h1, .inl (cI, 2628, .inl v_state))] [(cI, .int), (cC, .char), (cT, .object "CassetteTones$Tape")])) (va_Qi (S := Unit) (fun v _ => v = r) (fun _ t => posB (dC, dI) [(h0, .inr (7, [.ref h1, .ref h2, .int v_recorded, .ref h3, .ref h4, .ref h5, .int v_padLength, .ref h6, .int v_at, .int v_letter, .int v_hasUnder, .ref h7, .int v_numbersMany])), (h1, .inl (cI, 2628, .inl v_state))] [(cI, .int), (cC, .char), (cT, .object "CassetteTones$Tape")] (va_A [(h0, .inr (7, [.ref h1, .ref h2, .int v_recorded, .ref h3, .ref h4, .ref h5, .int v_padLength, .ref h6, .int v_at, .int v_letter, .int v_hasUnder, .ref h7, .int v_numbersMany])), (h1, .inl (cI, 2628, .inl v_state))] sz) t) (va_A [(h0, .inr (7, [.ref h1, .ref h2, .int v_recorded, .ref h3, .ref h4, .ref h5, .int v_padLength, .ref h6, .int v_at, .int v_letter, .int v_hasUnder, .ref h7, .int v_numbersMany])), (h1, .inl (cI, 2628, .inl v_state))] sz)) 0 0 (va_A [(h0, .inr (7, [.ref h1, .ref h2, .int v_recorded, .ref h3, .ref h4, .ref h5, .int v_padLength, .ref h6, .int v_at, .int v_letter, .int v_hasUnder, .ref h7, .int v_numbersMany])), (h1, .inl (cI, 2628, .inl v_state))] sz) := by
  refine x_met_z (by decide) rfl (Nat.le_of_ble_eq_true rfl) ?_
  intro p e s m args below meth c A Q H locs ls hx hb hml hown hts hK hN hA hP hD hS hl hend
  have hown : s.vm.findClass RX7 = some m.cls := hown
  have hl : lv_has ls 6 [(0, .ref h0), (1, .int p1), (2, .int p2)] := hl
  unfold den_X7_isLeaderLost at hd
  refine lv_aload_n hx hb dX7_isLeaderLost_0 rfl (lv_at hl 0 rfl) ?_
  refine lv_iload_n hx hb dX7_isLeaderLost_1 rfl (lv_at hl 1 rfl) ?_
  obtain ⟨q1, hq1, hd⟩ := bnd_some hd
  have hPc : va_P (dC, dI) vwCl [(h0, .inr (7, [.ref h1, .ref h2, .int v_recorded, .ref h3, .ref h4, .ref h5, .int v_padLength, .ref h6, .int v_at, .int v_letter, .int v_hasUnder, .ref h7, .int v_numbersMany])), (h1, .inl (cI, 2628, .inl v_state))] _ := hP.sub [0, 1] rfl
  have hDc := hD.sub (ws' := [(h0, .inr (7, [.ref h1, .ref h2, .int v_recorded, .ref h3, .ref h4, .ref h5, .int v_padLength, .ref h6, .int v_at, .int v_letter, .int v_hasUnder, .ref h7, .int v_numbersMany])), (h1, .inl (cI, 2628, .inl v_state))]) [0, 1] (by decide) rfl
  have hFc := va_free (wc := [(h0, .inr (7, [.ref h1, .ref h2, .int v_recorded, .ref h3, .ref h4, .ref h5, .int v_padLength, .ref h6, .int v_at, .int v_letter, .int v_hasUnder, .ref h7, .int v_numbersMany])), (h1, .inl (cI, 2628, .inl v_state))]) hD hS hA [0, 1] rfl
  refine va_calli (va_runV (As := [.int p1]) (rest := []) ⟨hx, hb, hml, hown, hts⟩ (c_X7_firstOf l dC dI cI cC cT h0 h1 h2 h3 h4 h5 h6 h7 H.size v_state v_recorded v_padLength v_at v_letter v_hasUnder v_numbersMany p1 q1 hq1) (cwV 1 hts gX7_isLeaderLost_X7_firstOf rfl rfl rfl hv_X7_firstOf ⟨Nat.le_of_ble_eq_true rfl, Nat.le_of_ble_eq_true rfl⟩) ⟨preB_fb, va_recv hK hPc (ci := 7) (q0 := 0) rfl rfl, fun U hU hW => preB_mk hU hW hPc hK hDc hN⟩ rfl rfl hl.1 rfl (lv_room (Nat.le_of_ble_eq_true rfl)) dX7_isLeaderLost_2 ⟨Nat.zero_le _, Nat.zero_le _⟩) hS (fun q _ h => hFc q h) hFc (fun r_ u_ t H locs ht hvm hw hB hz1 hk1 hS => ?_)
  have hw : r_ = q1 := hw
  have hw := hw.symm
  subst hw
  obtain ⟨hP, hD⟩ := x_join (ws' := [(h0, .inr (7, [.ref h1, .ref h2, .int v_recorded, .ref h3, .ref h4, .ref h5, .int v_padLength, .ref h6, .int v_at, .int v_letter, .int v_hasUnder, .ref h7, .int v_numbersMany])), (h1, .inl (cI, 2628, .inl v_state))]) hP hD [0, 1] [] rfl rfl (by decide) (by decide) hk1 hFc ht hB [0, 1] (by decide) rfl
  clear hPc hDc hFc hk1 hB ht hz1 hvm
  refine lv_iload_n hx hb dX7_isLeaderLost_5 rfl (lv_at hl 2 rfl) ?_
  refine lv_aload_n hx hb dX7_isLeaderLost_6 rfl (lv_at hl 0 rfl) ?_
  refine lv_iload_n hx hb dX7_isLeaderLost_7 rfl (lv_at hl 1 rfl) ?_
  obtain ⟨q2, hq2, hd⟩ := bnd_some hd
  have hPc : va_P (dC, dI) vwCl [(h0, .inr (7, [.ref h1, .ref h2, .int v_recorded, .ref h3, .ref h4, .ref h5, .int v_padLength, .ref h6, .int v_at, .int v_letter, .int v_hasUnder, .ref h7, .int v_numbersMany])), (h1, .inl (cI, 2628, .inl v_state))] _ := hP.sub [0, 1] rfl
  have hDc := hD.sub (ws' := [(h0, .inr (7, [.ref h1, .ref h2, .int v_recorded, .ref h3, .ref h4, .ref h5, .int v_padLength, .ref h6, .int v_at, .int v_letter, .int v_hasUnder, .ref h7, .int v_numbersMany])), (h1, .inl (cI, 2628, .inl v_state))]) [0, 1] (by decide) rfl
  have hFc := va_free (wc := [(h0, .inr (7, [.ref h1, .ref h2, .int v_recorded, .ref h3, .ref h4, .ref h5, .int v_padLength, .ref h6, .int v_at, .int v_letter, .int v_hasUnder, .ref h7, .int v_numbersMany])), (h1, .inl (cI, 2628, .inl v_state))]) hD hS hA [0, 1] rfl
  refine va_calli (va_runV (As := [.int p1]) (rest := [.int p2, .int q1]) ⟨hx, hb, hml, hown, hts⟩ (c_X7_tellingSize l dC dI cI cC cT h0 h1 h2 h3 h4 h5 h6 h7 H.size v_state v_recorded v_padLength v_at v_letter v_hasUnder v_numbersMany p1 q2 hq2) (cwV 1 hts gX7_isLeaderLost_X7_tellingSize rfl rfl rfl hv_X7_tellingSize ⟨Nat.le_of_ble_eq_true rfl, Nat.le_of_ble_eq_true rfl⟩) ⟨preB_fb, va_recv hK hPc (ci := 7) (q0 := 0) rfl rfl, fun U hU hW => preB_mk hU hW hPc hK hDc hN⟩ rfl rfl hl.1 rfl (lv_room (Nat.le_of_ble_eq_true rfl)) dX7_isLeaderLost_8 ⟨Nat.zero_le _, Nat.zero_le _⟩) hS (fun q _ h => hFc q h) hFc (fun r_ u_ t H locs ht hvm hw hB hz1 hk1 hS => ?_)
  have hw : r_ = q2 := hw
  have hw := hw.symm
  subst hw
  obtain ⟨hP, hD⟩ := x_join (ws' := [(h0, .inr (7, [.ref h1, .ref h2, .int v_recorded, .ref h3, .ref h4, .ref h5, .int v_padLength, .ref h6, .int v_at, .int v_letter, .int v_hasUnder, .ref h7, .int v_numbersMany])), (h1, .inl (cI, 2628, .inl v_state))]) hP hD [0, 1] [] rfl rfl (by decide) (by decide) hk1 hFc ht hB [0, 1] (by decide) rfl
  clear hPc hDc hFc hk1 hB ht hz1 hvm
  refine lv_imul hx hb dX7_isLeaderLost_11 ?_
  refine lv_iadd hx hb dX7_isLeaderLost_12 ?_
  refine lv_istore_n (lv' := [(3, .int (q1 + (p2 * q2))), (0, .ref h0), (1, .int p1), (2, .int p2)]) hx hb dX7_isLeaderLost_13 rfl hl (by decide) rfl (fun ls hl => ?_)
  refine lv_iconst (v := 0) hx hb dX7_isLeaderLost_14 (by decide) ?_
  refine lv_istore (lv' := [(4, .int (0 : Int32)), (3, .int (q1 + (p2 * q2))), (0, .ref h0), (1, .int p1), (2, .int p2)]) hx hb dX7_isLeaderLost_15 hl (by decide) rfl (fun ls hl => ?_)
  refine lv_iconst (v := 0) hx hb dX7_isLeaderLost_17 (by decide) ?_
  refine lv_istore (lv' := [(5, .int (0 : Int32)), (4, .int (0 : Int32)), (3, .int (q1 + (p2 * q2))), (0, .ref h0), (1, .int p1), (2, .int p2)]) hx hb dX7_isLeaderLost_18 hl (by decide) rfl (fun ls hl => ?_)
  obtain ⟨q3, hq3, hd⟩ := bnd_some hd
  have Kq3 : ∀ (H : Heap) (locs : List Loc) (ls : Array Slot), va_P (dC, dI) vwCl [(h0, .inr (7, [.ref h1, .ref h2, .int v_recorded, .ref h3, .ref h4, .ref h5, .int v_padLength, .ref h6, .int v_at, .int v_letter, .int v_hasUnder, .ref h7, .int v_numbersMany])), (h1, .inl (cI, 2628, .inl v_state))] H → va_D A [(h0, .inr (7, [.ref h1, .ref h2, .int v_recorded, .ref h3, .ref h4, .ref h5, .int v_padLength, .ref h6, .int v_at, .int v_letter, .int v_hasUnder, .ref h7, .int v_numbersMany])), (h1, .inl (cI, 2628, .inl v_state))] → va_S A s.heap H locs → lv_has ls 6 [(4, .int q3)] → W p l e rmX7_isLeaderLost s m args below meth c H locs 0 0 Q (F0 m 53 ls []) := by
    intro H locs ls hP hD hS hl
    refine lv_iload hx hb dX7_isLeaderLost_53 (lv_at hl 0 rfl) ?_
    refine lv_iconst (v := 2) hx hb dX7_isLeaderLost_55 (by decide) ?_
    refine lv_icmp_ge (tgt := 63) hx hb dX7_isLeaderLost_56 (by decide) (fun c4 => ?_) (fun c4 => ?_)
    · replace hd := ite_t c4 hd
      refine lv_iconst (v := 0) hx hb dX7_isLeaderLost_63 (by decide) ?_
      cases hd
      exact hend (by rfl) (by rfl) hP hD hS dX7_isLeaderLost_64
    · replace hd := ite_f c4 hd
      refine lv_iconst (v := 1) hx hb dX7_isLeaderLost_59 (by decide) ?_
      refine lv_goto (tgt := 64) hx hb dX7_isLeaderLost_60 (by decide) ?_
      cases hd
      exact hend (by rfl) (by rfl) hP hD hS dX7_isLeaderLost_64
  clear hd
  have KL9 : ∀ (fu : Nat) (y4_20 : Int32) (y5_20 : Int32) (hd : den_X7_isLeaderLost_L20 p2 v_state q1 q2 fu y4_20 y5_20 = some q3) (H : Heap) (locs : List Loc) (ls : Array Slot), va_P (dC, dI) vwCl [(h0, .inr (7, [.ref h1, .ref h2, .int v_recorded, .ref h3, .ref h4, .ref h5, .int v_padLength, .ref h6, .int v_at, .int v_letter, .int v_hasUnder, .ref h7, .int v_numbersMany])), (h1, .inl (cI, 2628, .inl v_state))] H → va_D A [(h0, .inr (7, [.ref h1, .ref h2, .int v_recorded, .ref h3, .ref h4, .ref h5, .int v_padLength, .ref h6, .int v_at, .int v_letter, .int v_hasUnder, .ref h7, .int v_numbersMany])), (h1, .inl (cI, 2628, .inl v_state))] → va_S A s.heap H locs → lv_has ls 6 [(0, .ref h0), (3, .int (q1 + (p2 * q2))), (4, .int y4_20), (5, .int y5_20)] → W p l e rmX7_isLeaderLost s m args below meth c H locs 0 0 Q (F0 m 20 ls []) := by
    intro fu
    induction fu with
    | zero => intro y4_20 y5_20 hd; exact no_some hd
    | succ fu ih =>
      intro y4_20 y5_20 hd H locs ls hP hD hS hl
      rw [den_X7_isLeaderLost_L20] at hd
      refine lv_iload hx hb dX7_isLeaderLost_20 (lv_at hl 3 rfl) ?_
      refine lv_iconst (v := 4) hx hb dX7_isLeaderLost_22 (by decide) ?_
      refine lv_icmp_ge (tgt := 53) hx hb dX7_isLeaderLost_23 (by decide) (fun c5 => ?_) (fun c5 => ?_)
      · replace hd := ite_t c5 hd
        cases hd
        exact Kq3 _ _ _ hP hD hS (lv_sub hl [2] rfl)
      · replace hd := ite_f c5 hd
        refine lv_iload hx hb dX7_isLeaderLost_26 (lv_at hl 2 rfl) ?_
        refine lv_aload_n hx hb dX7_isLeaderLost_28 rfl (lv_at hl 0 rfl) ?_
        refine lv_iload_n hx hb dX7_isLeaderLost_29 rfl (lv_at hl 1 rfl) ?_
        refine lv_iload hx hb dX7_isLeaderLost_30 (lv_at hl 3 rfl) ?_
        refine lv_iadd hx hb dX7_isLeaderLost_32 ?_
        obtain ⟨q6, hq6, hd⟩ := bnd_some hd
        have hPc : va_P (dC, dI) vwCl [(h0, .inr (7, [.ref h1, .ref h2, .int v_recorded, .ref h3, .ref h4, .ref h5, .int v_padLength, .ref h6, .int v_at, .int v_letter, .int v_hasUnder, .ref h7, .int v_numbersMany])), (h1, .inl (cI, 2628, .inl v_state))] _ := hP.sub [0, 1] rfl
        have hDc := hD.sub (ws' := [(h0, .inr (7, [.ref h1, .ref h2, .int v_recorded, .ref h3, .ref h4, .ref h5, .int v_padLength, .ref h6, .int v_at, .int v_letter, .int v_hasUnder, .ref h7, .int v_numbersMany])), (h1, .inl (cI, 2628, .inl v_state))]) [0, 1] (by decide) rfl
        have hFc := va_free (wc := [(h0, .inr (7, [.ref h1, .ref h2, .int v_recorded, .ref h3, .ref h4, .ref h5, .int v_padLength, .ref h6, .int v_at, .int v_letter, .int v_hasUnder, .ref h7, .int v_numbersMany])), (h1, .inl (cI, 2628, .inl v_state))]) hD hS hA [0, 1] rfl
        refine va_calli (va_runV (As := [.int ((q1 + (p2 * q2)) + y5_20)]) (rest := [.int y4_20]) ⟨hx, hb, hml, hown, hts⟩ (c_X7_isHeard l dC dI cI cC cT h0 h1 h2 h3 h4 h5 h6 h7 H.size v_state v_recorded v_padLength v_at v_letter v_hasUnder v_numbersMany ((q1 + (p2 * q2)) + y5_20) q6 hq6) (cwV 1 hts gX7_isLeaderLost_X7_isHeard rfl rfl rfl hv_X7_isHeard ⟨Nat.le_of_ble_eq_true rfl, Nat.le_of_ble_eq_true rfl⟩) ⟨preB_fb, va_recv hK hPc (ci := 7) (q0 := 0) rfl rfl, fun U hU hW => preB_mk hU hW hPc hK hDc hN⟩ rfl rfl hl.1 rfl (lv_room (Nat.le_of_ble_eq_true rfl)) dX7_isLeaderLost_33 ⟨Nat.zero_le _, Nat.zero_le _⟩) hS (fun q _ h => hFc q h) hFc (fun r_ u_ t H locs ht hvm hw hB hz1 hk1 hS => ?_)
        have hw : r_ = q6 := hw
        have hw := hw.symm
        subst hw
        obtain ⟨hP, hD⟩ := x_join (ws' := [(h0, .inr (7, [.ref h1, .ref h2, .int v_recorded, .ref h3, .ref h4, .ref h5, .int v_padLength, .ref h6, .int v_at, .int v_letter, .int v_hasUnder, .ref h7, .int v_numbersMany])), (h1, .inl (cI, 2628, .inl v_state))]) hP hD [0, 1] [] rfl rfl (by decide) (by decide) hk1 hFc ht hB [0, 1] (by decide) rfl
        clear hPc hDc hFc hk1 hB ht hz1 hvm
        obtain ⟨q7, hq7, hd⟩ := bnd_some hd
        have Kq7 : ∀ (H : Heap) (locs : List Loc) (ls : Array Slot), va_P (dC, dI) vwCl [(h0, .inr (7, [.ref h1, .ref h2, .int v_recorded, .ref h3, .ref h4, .ref h5, .int v_padLength, .ref h6, .int v_at, .int v_letter, .int v_hasUnder, .ref h7, .int v_numbersMany])), (h1, .inl (cI, 2628, .inl v_state))] H → va_D A [(h0, .inr (7, [.ref h1, .ref h2, .int v_recorded, .ref h3, .ref h4, .ref h5, .int v_padLength, .ref h6, .int v_at, .int v_letter, .int v_hasUnder, .ref h7, .int v_numbersMany])), (h1, .inl (cI, 2628, .inl v_state))] → va_S A s.heap H locs → lv_has ls 6 [(0, .ref h0), (3, .int (q1 + (p2 * q2))), (5, .int y5_20)] → W p l e rmX7_isLeaderLost s m args below meth c H locs 0 0 Q (F0 m 44 ls [.int q7, .int y4_20]) := by
          intro H locs ls hP hD hS hl
          refine lv_iadd hx hb dX7_isLeaderLost_44 ?_
          refine lv_istore (lv' := [(4, .int (y4_20 + q7)), (0, .ref h0), (3, .int (q1 + (p2 * q2))), (5, .int y5_20)]) hx hb dX7_isLeaderLost_45 hl (by decide) rfl (fun ls hl => ?_)
          refine lv_iinc (v := (y5_20 + (1 : Int32))) (lv' := [(5, .int (y5_20 + (1 : Int32))), (4, .int (y4_20 + q7)), (0, .ref h0), (3, .int (q1 + (p2 * q2)))]) hx hb dX7_isLeaderLost_47 hl (k := 3) rfl (by first | rfl | decide) (by decide) rfl (fun ls hl => ?_)
          refine lv_goto (tgt := 20) hx hb dX7_isLeaderLost_50 (by decide) ?_
          exact ih (y4_20 + q7) (y5_20 + (1 : Int32)) hd _ _ _ hP hD hS (lv_sub hl [2, 3, 1, 0] rfl)
        replace hd := hq7
        clear hq7
        refine lv_if_eq (tgt := 43) hx hb dX7_isLeaderLost_36 (by decide) (fun c8 => ?_) (fun c8 => ?_)
        · replace hd := ite_t c8 hd
          refine lv_iconst (v := 0) hx hb dX7_isLeaderLost_43 (by decide) ?_
          cases hd
          exact Kq7 _ _ _ hP hD hS (lv_sub hl [0, 1, 3] rfl)
        · replace hd := ite_f c8 hd
          refine lv_iconst (v := 1) hx hb dX7_isLeaderLost_39 (by decide) ?_
          refine lv_goto (tgt := 44) hx hb dX7_isLeaderLost_40 (by decide) ?_
          cases hd
          exact Kq7 _ _ _ hP hD hS (lv_sub hl [0, 1, 3] rfl)
  exact KL9 FU (0 : Int32) (0 : Int32) hq3 _ _ _ hP hD hS (lv_sub hl [3, 2, 1, 0] rfl)
def rmX7_readAt : Room := { frames := 5, cells := 0, slots := 0, locals := 113 }
theorem hp_X7_readAt : yX7_readAt.cls ≠ "java/lang/invoke/MethodHandle" ∧ yX7_readAt.cls ≠ "java/lang/invoke/VarHandle" ∧ (parseMethodDescriptor yX7_readAt.desc).map (fun d => d.parameters.length) = some 3 := by decide +kernel
theorem hv_X7_readAt : yX7_readAt.cls = RX7 ∧ yX7_readAt.cls ≠ "java/lang/invoke/MethodHandle" ∧ yX7_readAt.cls ≠ "java/lang/invoke/VarHandle" ∧ (parseMethodDescriptor yX7_readAt.desc).map (fun d => d.parameters.length) = some 3 := by decide +kernel
set_option maxHeartbeats 4000000 in
set_option maxRecDepth 100000 in
theorem c_X7_readAt (l : Launch) (dC : Nat → ClassId) (dI : Nat → Nat → Nat) (cI cC cT : ClassId) (h0 h1 h2 h3 h4 h5 h6 h7 : Nat) (sz : Nat) (v_state : (Nat → Int32)) (v_recorded : Int32) (v_padLength : Int32) (v_at : Int32) (v_letter : Int32) (v_hasUnder : Int32) (v_numbersMany : Int32) (p1 : Int32) (p2 : Int32) (p3 : Int32) (r : Int32) (hd : den_X7_readAt v_state p1 p2 p3 = some r) : Met l yX7_readAt wsX7_readAt rmX7_readAt (va_Pc [.ref h0, .int p1, .int p2, .int p3] (preB sz (dC, dI) [(h0, .inr (7, [.ref h1, .ref h2, .int v_recorded, .ref h3, .ref h4, .ref h5, .int v_padLength, .ref h6, .int v_at, .int v_letter, .int v_hasUnder, .ref h7, .int v_numbersMany])), (h1, .inl (cI, 2628, .inl v_state))] [(cI, .int), (cC, .char), (cT, .object "CassetteTones$Tape")])) (va_Qi (S := Unit) (fun v _ => v = r) (fun _ t => posB (dC, dI) [(h0, .inr (7, [.ref h1, .ref h2, .int v_recorded, .ref h3, .ref h4, .ref h5, .int v_padLength, .ref h6, .int v_at, .int v_letter, .int v_hasUnder, .ref h7, .int v_numbersMany])), (h1, .inl (cI, 2628, .inl v_state))] [(cI, .int), (cC, .char), (cT, .object "CassetteTones$Tape")] (va_A [(h0, .inr (7, [.ref h1, .ref h2, .int v_recorded, .ref h3, .ref h4, .ref h5, .int v_padLength, .ref h6, .int v_at, .int v_letter, .int v_hasUnder, .ref h7, .int v_numbersMany])), (h1, .inl (cI, 2628, .inl v_state))] sz) t) (va_A [(h0, .inr (7, [.ref h1, .ref h2, .int v_recorded, .ref h3, .ref h4, .ref h5, .int v_padLength, .ref h6, .int v_at, .int v_letter, .int v_hasUnder, .ref h7, .int v_numbersMany])), (h1, .inl (cI, 2628, .inl v_state))] sz)) 0 0 (va_A [(h0, .inr (7, [.ref h1, .ref h2, .int v_recorded, .ref h3, .ref h4, .ref h5, .int v_padLength, .ref h6, .int v_at, .int v_letter, .int v_hasUnder, .ref h7, .int v_numbersMany])), (h1, .inl (cI, 2628, .inl v_state))] sz) := by
  refine x_met_i (by decide) rfl (Nat.le_of_ble_eq_true rfl) ?_
  intro p e s m args below meth c A Q H locs ls hx hb hml hown hts hK hN hA hP hD hS hl hend
  have hown : s.vm.findClass RX7 = some m.cls := hown
  have hl : lv_has ls 9 [(0, .ref h0), (1, .int p1), (2, .int p2), (3, .int p3)] := hl
  unfold den_X7_readAt at hd
  refine lv_iconst (v := 4) hx hb dX7_readAt_0 (by decide) ?_
  refine lv_bipush (v := 9) hx hb dX7_readAt_1 (by decide) ?_
  refine lv_iload_n hx hb dX7_readAt_3 rfl (lv_at hl 3 rfl) ?_
  refine lv_imul hx hb dX7_readAt_4 ?_
  refine lv_iadd hx hb dX7_readAt_5 ?_
  refine lv_istore (lv' := [(4, .int ((4 : Int32) + ((9 : Int32) * p3))), (0, .ref h0), (1, .int p1), (2, .int p2), (3, .int p3)]) hx hb dX7_readAt_6 hl (by decide) rfl (fun ls hl => ?_)
  refine lv_aload_n hx hb dX7_readAt_8 rfl (lv_at hl 1 rfl) ?_
  refine lv_iload_n hx hb dX7_readAt_9 rfl (lv_at hl 2 rfl) ?_
  obtain ⟨q1, hq1, hd⟩ := bnd_some hd
  have hPc : va_P (dC, dI) vwCl [(h0, .inr (7, [.ref h1, .ref h2, .int v_recorded, .ref h3, .ref h4, .ref h5, .int v_padLength, .ref h6, .int v_at, .int v_letter, .int v_hasUnder, .ref h7, .int v_numbersMany])), (h1, .inl (cI, 2628, .inl v_state))] _ := hP.sub [0, 1] rfl
  have hDc := hD.sub (ws' := [(h0, .inr (7, [.ref h1, .ref h2, .int v_recorded, .ref h3, .ref h4, .ref h5, .int v_padLength, .ref h6, .int v_at, .int v_letter, .int v_hasUnder, .ref h7, .int v_numbersMany])), (h1, .inl (cI, 2628, .inl v_state))]) [0, 1] (by decide) rfl
  have hFc := va_free (wc := [(h0, .inr (7, [.ref h1, .ref h2, .int v_recorded, .ref h3, .ref h4, .ref h5, .int v_padLength, .ref h6, .int v_at, .int v_letter, .int v_hasUnder, .ref h7, .int v_numbersMany])), (h1, .inl (cI, 2628, .inl v_state))]) hD hS hA [0, 1] rfl
  refine va_calli (va_runV (As := [.int p1]) (rest := []) ⟨hx, hb, hml, hown, hts⟩ (c_X7_firstOf l dC dI cI cC cT h0 h1 h2 h3 h4 h5 h6 h7 H.size v_state v_recorded v_padLength v_at v_letter v_hasUnder v_numbersMany p1 q1 hq1) (cwV 1 hts gX7_readAt_X7_firstOf rfl rfl rfl hv_X7_firstOf ⟨Nat.le_of_ble_eq_true rfl, Nat.le_of_ble_eq_true rfl⟩) ⟨preB_fb, va_recv hK hPc (ci := 7) (q0 := 0) rfl rfl, fun U hU hW => preB_mk hU hW hPc hK hDc hN⟩ rfl rfl hl.1 rfl (lv_room (Nat.le_of_ble_eq_true rfl)) dX7_readAt_10 ⟨Nat.zero_le _, Nat.zero_le _⟩) hS (fun q _ h => hFc q h) hFc (fun r_ u_ t H locs ht hvm hw hB hz1 hk1 hS => ?_)
  have hw : r_ = q1 := hw
  have hw := hw.symm
  subst hw
  obtain ⟨hP, hD⟩ := x_join (ws' := [(h0, .inr (7, [.ref h1, .ref h2, .int v_recorded, .ref h3, .ref h4, .ref h5, .int v_padLength, .ref h6, .int v_at, .int v_letter, .int v_hasUnder, .ref h7, .int v_numbersMany])), (h1, .inl (cI, 2628, .inl v_state))]) hP hD [0, 1] [] rfl rfl (by decide) (by decide) hk1 hFc ht hB [0, 1] (by decide) rfl
  clear hPc hDc hFc hk1 hB ht hz1 hvm
  refine lv_iload_n hx hb dX7_readAt_13 rfl (lv_at hl 3 rfl) ?_
  refine lv_aload_n hx hb dX7_readAt_14 rfl (lv_at hl 1 rfl) ?_
  refine lv_iload_n hx hb dX7_readAt_15 rfl (lv_at hl 2 rfl) ?_
  obtain ⟨q2, hq2, hd⟩ := bnd_some hd
  have hPc : va_P (dC, dI) vwCl [(h0, .inr (7, [.ref h1, .ref h2, .int v_recorded, .ref h3, .ref h4, .ref h5, .int v_padLength, .ref h6, .int v_at, .int v_letter, .int v_hasUnder, .ref h7, .int v_numbersMany])), (h1, .inl (cI, 2628, .inl v_state))] _ := hP.sub [0, 1] rfl
  have hDc := hD.sub (ws' := [(h0, .inr (7, [.ref h1, .ref h2, .int v_recorded, .ref h3, .ref h4, .ref h5, .int v_padLength, .ref h6, .int v_at, .int v_letter, .int v_hasUnder, .ref h7, .int v_numbersMany])), (h1, .inl (cI, 2628, .inl v_state))]) [0, 1] (by decide) rfl
  have hFc := va_free (wc := [(h0, .inr (7, [.ref h1, .ref h2, .int v_recorded, .ref h3, .ref h4, .ref h5, .int v_padLength, .ref h6, .int v_at, .int v_letter, .int v_hasUnder, .ref h7, .int v_numbersMany])), (h1, .inl (cI, 2628, .inl v_state))]) hD hS hA [0, 1] rfl
  refine va_calli (va_runV (As := [.int p1]) (rest := [.int p2, .int q1]) ⟨hx, hb, hml, hown, hts⟩ (c_X7_tellingSize l dC dI cI cC cT h0 h1 h2 h3 h4 h5 h6 h7 H.size v_state v_recorded v_padLength v_at v_letter v_hasUnder v_numbersMany p1 q2 hq2) (cwV 1 hts gX7_readAt_X7_tellingSize rfl rfl rfl hv_X7_tellingSize ⟨Nat.le_of_ble_eq_true rfl, Nat.le_of_ble_eq_true rfl⟩) ⟨preB_fb, va_recv hK hPc (ci := 7) (q0 := 0) rfl rfl, fun U hU hW => preB_mk hU hW hPc hK hDc hN⟩ rfl rfl hl.1 rfl (lv_room (Nat.le_of_ble_eq_true rfl)) dX7_readAt_16 ⟨Nat.zero_le _, Nat.zero_le _⟩) hS (fun q _ h => hFc q h) hFc (fun r_ u_ t H locs ht hvm hw hB hz1 hk1 hS => ?_)
  have hw : r_ = q2 := hw
  have hw := hw.symm
  subst hw
  obtain ⟨hP, hD⟩ := x_join (ws' := [(h0, .inr (7, [.ref h1, .ref h2, .int v_recorded, .ref h3, .ref h4, .ref h5, .int v_padLength, .ref h6, .int v_at, .int v_letter, .int v_hasUnder, .ref h7, .int v_numbersMany])), (h1, .inl (cI, 2628, .inl v_state))]) hP hD [0, 1] [] rfl rfl (by decide) (by decide) hk1 hFc ht hB [0, 1] (by decide) rfl
  clear hPc hDc hFc hk1 hB ht hz1 hvm
  refine lv_imul hx hb dX7_readAt_19 ?_
  refine lv_iadd hx hb dX7_readAt_20 ?_
  refine lv_iload hx hb dX7_readAt_21 (lv_at hl 0 rfl) ?_
  refine lv_iadd hx hb dX7_readAt_23 ?_
  refine lv_topi (fun x3 ex3 => ?_)
  replace hd := nm_some ex3 hd
  refine lv_istore (lv' := [(5, .int x3), (4, .int ((4 : Int32) + ((9 : Int32) * p3))), (0, .ref h0), (1, .int p1), (2, .int p2), (3, .int p3)]) hx hb dX7_readAt_24 hl (by decide) rfl (fun ls hl => ?_)
  refine lv_iconst (v := 1) hx hb dX7_readAt_26 (by decide) ?_
  refine lv_istore (lv' := [(6, .int (1 : Int32)), (5, .int x3), (4, .int ((4 : Int32) + ((9 : Int32) * p3))), (0, .ref h0), (1, .int p1), (2, .int p2), (3, .int p3)]) hx hb dX7_readAt_27 hl (by decide) rfl (fun ls hl => ?_)
  refine lv_iconst (v := 0) hx hb dX7_readAt_29 (by decide) ?_
  refine lv_istore (lv' := [(7, .int (0 : Int32)), (6, .int (1 : Int32)), (5, .int x3), (4, .int ((4 : Int32) + ((9 : Int32) * p3))), (0, .ref h0), (1, .int p1), (2, .int p2), (3, .int p3)]) hx hb dX7_readAt_30 hl (by decide) rfl (fun ls hl => ?_)
  refine lv_iconst (v := 0) hx hb dX7_readAt_32 (by decide) ?_
  refine lv_istore (lv' := [(8, .int (0 : Int32)), (7, .int (0 : Int32)), (6, .int (1 : Int32)), (5, .int x3), (4, .int ((4 : Int32) + ((9 : Int32) * p3))), (0, .ref h0), (1, .int p1), (2, .int p2), (3, .int p3)]) hx hb dX7_readAt_33 hl (by decide) rfl (fun ls hl => ?_)
  obtain ⟨q4, hq4, hd⟩ := bnd_some hd
  have Kq4 : ∀ (H : Heap) (locs : List Loc) (ls : Array Slot), va_P (dC, dI) vwCl [(h0, .inr (7, [.ref h1, .ref h2, .int v_recorded, .ref h3, .ref h4, .ref h5, .int v_padLength, .ref h6, .int v_at, .int v_letter, .int v_hasUnder, .ref h7, .int v_numbersMany])), (h1, .inl (cI, 2628, .inl v_state))] H → va_D A [(h0, .inr (7, [.ref h1, .ref h2, .int v_recorded, .ref h3, .ref h4, .ref h5, .int v_padLength, .ref h6, .int v_at, .int v_letter, .int v_hasUnder, .ref h7, .int v_numbersMany])), (h1, .inl (cI, 2628, .inl v_state))] → va_S A s.heap H locs → lv_has ls 9 [(0, .ref h0), (1, .int p1), (2, .int p2), (4, .int ((4 : Int32) + ((9 : Int32) * p3))), (6, .int q4.1), (7, .int q4.2)] → W p l e rmX7_readAt s m args below meth c H locs 0 0 Q (F0 m 102 ls []) := by
    intro H locs ls hP hD hS hl
    refine lv_iload hx hb dX7_readAt_102 (lv_at hl 4 rfl) ?_
    refine lv_if_eq (tgt := 131) hx hb dX7_readAt_104 (by decide) (fun c5 => ?_) (fun c5 => ?_)
    · replace hd := ite_t c5 hd
      refine lv_bipush (v := -6) hx hb dX7_readAt_131 (by decide) ?_
      cases hd
      exact hend (by rfl) hP hD hS dX7_readAt_133
    · replace hd := ite_f c5 hd
      refine lv_aload_n hx hb dX7_readAt_107 rfl (lv_at hl 0 rfl) ?_
      refine lv_iload_n hx hb dX7_readAt_108 rfl (lv_at hl 1 rfl) ?_
      refine lv_iload_n hx hb dX7_readAt_109 rfl (lv_at hl 2 rfl) ?_
      refine lv_iload hx hb dX7_readAt_110 (lv_at hl 3 rfl) ?_
      refine lv_bipush (v := 8) hx hb dX7_readAt_112 (by decide) ?_
      refine lv_iadd hx hb dX7_readAt_114 ?_
      obtain ⟨q6, hq6, hd⟩ := bnd_some hd
      have hPc : va_P (dC, dI) vwCl [(h0, .inr (7, [.ref h1, .ref h2, .int v_recorded, .ref h3, .ref h4, .ref h5, .int v_padLength, .ref h6, .int v_at, .int v_letter, .int v_hasUnder, .ref h7, .int v_numbersMany])), (h1, .inl (cI, 2628, .inl v_state))] _ := hP.sub [0, 1] rfl
      have hDc := hD.sub (ws' := [(h0, .inr (7, [.ref h1, .ref h2, .int v_recorded, .ref h3, .ref h4, .ref h5, .int v_padLength, .ref h6, .int v_at, .int v_letter, .int v_hasUnder, .ref h7, .int v_numbersMany])), (h1, .inl (cI, 2628, .inl v_state))]) [0, 1] (by decide) rfl
      have hFc := va_free (wc := [(h0, .inr (7, [.ref h1, .ref h2, .int v_recorded, .ref h3, .ref h4, .ref h5, .int v_padLength, .ref h6, .int v_at, .int v_letter, .int v_hasUnder, .ref h7, .int v_numbersMany])), (h1, .inl (cI, 2628, .inl v_state))]) hD hS hA [0, 1] rfl
      refine va_calli (va_runV (As := [.int p1, .int p2, .int (((4 : Int32) + ((9 : Int32) * p3)) + (8 : Int32))]) (rest := []) ⟨hx, hb, hml, hown, hts⟩ (c_X7_bitAt l dC dI cI cC cT h0 h1 h2 h3 h4 h5 h6 h7 H.size v_state v_recorded v_padLength v_at v_letter v_hasUnder v_numbersMany p1 p2 (((4 : Int32) + ((9 : Int32) * p3)) + (8 : Int32)) q6 hq6) (cwV 3 hts gX7_readAt_X7_bitAt rfl rfl rfl hv_X7_bitAt ⟨Nat.le_of_ble_eq_true rfl, Nat.le_of_ble_eq_true rfl⟩) ⟨preB_fb, va_recv hK hPc (ci := 7) (q0 := 0) rfl rfl, fun U hU hW => preB_mk hU hW hPc hK hDc hN⟩ rfl rfl hl.1 rfl (lv_room (Nat.le_of_ble_eq_true rfl)) dX7_readAt_115 ⟨Nat.zero_le _, Nat.zero_le _⟩) hS (fun q _ h => hFc q h) hFc (fun r_ u_ t H locs ht hvm hw hB hz1 hk1 hS => ?_)
      have hw : r_ = q6 := hw
      have hw := hw.symm
      subst hw
      obtain ⟨hP, hD⟩ := x_join (ws' := [(h0, .inr (7, [.ref h1, .ref h2, .int v_recorded, .ref h3, .ref h4, .ref h5, .int v_padLength, .ref h6, .int v_at, .int v_letter, .int v_hasUnder, .ref h7, .int v_numbersMany])), (h1, .inl (cI, 2628, .inl v_state))]) hP hD [0, 1] [] rfl rfl (by decide) (by decide) hk1 hFc ht hB [0, 1] (by decide) rfl
      clear hPc hDc hFc hk1 hB ht hz1 hvm
      refine lv_iload hx hb dX7_readAt_118 (lv_at hl 5 rfl) ?_
      obtain ⟨q7, hq7, hd⟩ := bnd_some hd
      have hPc : va_P (dC, dI) vwCl [] _ := hP.sub [] rfl
      have hDc := hD.sub (ws' := []) [] (by decide) rfl
      have hFc := va_free (wc := []) hD hS hA [] rfl
      refine va_calli (va_runS (As := [.int q4.2]) (rest := [.int q6]) ⟨hx, hb, hml, hown, hts⟩ (c_X7_isOdd l dC dI cI cC cT H.size q4.2 q7 hq7) (va_cwS 1 hts gX7_readAt_X7_isOdd rfl rfl rfl hp_X7_isOdd ⟨Nat.le_of_ble_eq_true rfl, Nat.le_of_ble_eq_true rfl⟩) ⟨preB_fb, fun U hU hW => preB_mk hU hW hPc hK hDc hN⟩ rfl rfl hl.1 rfl (lv_room (Nat.le_of_ble_eq_true rfl)) dX7_readAt_120 ⟨Nat.zero_le _, Nat.zero_le _⟩) hS (fun q _ h => hFc q h) hFc (fun r_ u_ t H locs ht hvm hw hB hz1 hk1 hS => ?_)
      have hw : r_ = q7 := hw
      have hw := hw.symm
      subst hw
      obtain ⟨hP, hD⟩ := x_join (ws' := [(h0, .inr (7, [.ref h1, .ref h2, .int v_recorded, .ref h3, .ref h4, .ref h5, .int v_padLength, .ref h6, .int v_at, .int v_letter, .int v_hasUnder, .ref h7, .int v_numbersMany])), (h1, .inl (cI, 2628, .inl v_state))]) hP hD [] [0, 1] rfl rfl (by decide) (by decide) hk1 hFc ht hB [0, 1] (by decide) rfl
      clear hPc hDc hFc hk1 hB ht hz1 hvm
      refine lv_icmp_ne (tgt := 131) hx hb dX7_readAt_123 (by decide) (fun c8 => ?_) (fun c8 => ?_)
      · replace hd := ite_f c8 hd
        refine lv_bipush (v := -6) hx hb dX7_readAt_131 (by decide) ?_
        cases hd
        exact hend (by rfl) hP hD hS dX7_readAt_133
      · replace hd := ite_t c8 hd
        refine lv_iload hx hb dX7_readAt_126 (lv_at hl 5 rfl) ?_
        refine lv_goto (tgt := 133) hx hb dX7_readAt_128 (by decide) ?_
        cases hd
        exact hend (by rfl) hP hD hS dX7_readAt_133
  clear hd
  have KL17 : ∀ (fu : Nat) (y6_35 : Int32) (y7_35 : Int32) (y8_35 : Int32) (hd : den_X7_readAt_L35 p1 p2 p3 v_state x3 fu y6_35 y7_35 y8_35 = some q4) (H : Heap) (locs : List Loc) (ls : Array Slot), va_P (dC, dI) vwCl [(h0, .inr (7, [.ref h1, .ref h2, .int v_recorded, .ref h3, .ref h4, .ref h5, .int v_padLength, .ref h6, .int v_at, .int v_letter, .int v_hasUnder, .ref h7, .int v_numbersMany])), (h1, .inl (cI, 2628, .inl v_state))] H → va_D A [(h0, .inr (7, [.ref h1, .ref h2, .int v_recorded, .ref h3, .ref h4, .ref h5, .int v_padLength, .ref h6, .int v_at, .int v_letter, .int v_hasUnder, .ref h7, .int v_numbersMany])), (h1, .inl (cI, 2628, .inl v_state))] → va_S A s.heap H locs → lv_has ls 9 [(0, .ref h0), (1, .int p1), (2, .int p2), (4, .int ((4 : Int32) + ((9 : Int32) * p3))), (5, .int x3), (6, .int y6_35), (7, .int y7_35), (8, .int y8_35)] → W p l e rmX7_readAt s m args below meth c H locs 0 0 Q (F0 m 35 ls []) := by
    intro fu
    induction fu with
    | zero => intro y6_35 y7_35 y8_35 hd; exact no_some hd
    | succ fu ih =>
      intro y6_35 y7_35 y8_35 hd H locs ls hP hD hS hl
      rw [den_X7_readAt_L35] at hd
      refine lv_iload hx hb dX7_readAt_35 (lv_at hl 7 rfl) ?_
      refine lv_bipush (v := 9) hx hb dX7_readAt_37 (by decide) ?_
      refine lv_icmp_ge (tgt := 102) hx hb dX7_readAt_39 (by decide) (fun c9 => ?_) (fun c9 => ?_)
      · replace hd := ite_t c9 hd
        cases hd
        exact Kq4 _ _ _ hP hD hS (lv_sub hl [0, 1, 2, 3, 5, 6] rfl)
      · replace hd := ite_f c9 hd
        refine lv_iload hx hb dX7_readAt_42 (lv_at hl 5 rfl) ?_
        obtain ⟨q10, hq10, hd⟩ := bnd_some hd
        have Kq10 : ∀ (H : Heap) (locs : List Loc) (ls : Array Slot), va_P (dC, dI) vwCl [(h0, .inr (7, [.ref h1, .ref h2, .int v_recorded, .ref h3, .ref h4, .ref h5, .int v_padLength, .ref h6, .int v_at, .int v_letter, .int v_hasUnder, .ref h7, .int v_numbersMany])), (h1, .inl (cI, 2628, .inl v_state))] H → va_D A [(h0, .inr (7, [.ref h1, .ref h2, .int v_recorded, .ref h3, .ref h4, .ref h5, .int v_padLength, .ref h6, .int v_at, .int v_letter, .int v_hasUnder, .ref h7, .int v_numbersMany])), (h1, .inl (cI, 2628, .inl v_state))] → va_S A s.heap H locs → lv_has ls 9 [(0, .ref h0), (1, .int p1), (2, .int p2), (4, .int ((4 : Int32) + ((9 : Int32) * p3))), (5, .int x3), (7, .int y7_35), (8, .int y8_35)] → W p l e rmX7_readAt s m args below meth c H locs 0 0 Q (F0 m 64 ls [.int q10]) := by
          intro H locs ls hP hD hS hl
          refine lv_istore (lv' := [(6, .int q10), (0, .ref h0), (1, .int p1), (2, .int p2), (4, .int ((4 : Int32) + ((9 : Int32) * p3))), (5, .int x3), (7, .int y7_35), (8, .int y8_35)]) hx hb dX7_readAt_64 hl (by decide) rfl (fun ls hl => ?_)
          refine lv_iload hx hb dX7_readAt_66 (lv_at hl 6 rfl) ?_
          refine lv_iload hx hb dX7_readAt_68 (lv_at hl 7 rfl) ?_
          refine lv_bipush (v := 8) hx hb dX7_readAt_70 (by decide) ?_
          obtain ⟨q11, hq11, hd⟩ := bnd_some hd
          have Kq11 : ∀ (H : Heap) (locs : List Loc) (ls : Array Slot), va_P (dC, dI) vwCl [(h0, .inr (7, [.ref h1, .ref h2, .int v_recorded, .ref h3, .ref h4, .ref h5, .int v_padLength, .ref h6, .int v_at, .int v_letter, .int v_hasUnder, .ref h7, .int v_numbersMany])), (h1, .inl (cI, 2628, .inl v_state))] H → va_D A [(h0, .inr (7, [.ref h1, .ref h2, .int v_recorded, .ref h3, .ref h4, .ref h5, .int v_padLength, .ref h6, .int v_at, .int v_letter, .int v_hasUnder, .ref h7, .int v_numbersMany])), (h1, .inl (cI, 2628, .inl v_state))] → va_S A s.heap H locs → lv_has ls 9 [(0, .ref h0), (1, .int p1), (2, .int p2), (4, .int ((4 : Int32) + ((9 : Int32) * p3))), (5, .int x3), (6, .int q10), (8, .int y8_35)] → W p l e rmX7_readAt s m args below meth c H locs 0 0 Q (F0 m 93 ls [.int q11, .int y7_35]) := by
            intro H locs ls hP hD hS hl
            refine lv_ior hx hb dX7_readAt_93 ?_
            refine lv_istore (lv' := [(7, .int (y7_35 ||| q11)), (0, .ref h0), (1, .int p1), (2, .int p2), (4, .int ((4 : Int32) + ((9 : Int32) * p3))), (5, .int x3), (6, .int q10), (8, .int y8_35)]) hx hb dX7_readAt_94 hl (by decide) rfl (fun ls hl => ?_)
            refine lv_iinc (v := (y8_35 + (1 : Int32))) (lv' := [(8, .int (y8_35 + (1 : Int32))), (7, .int (y7_35 ||| q11)), (0, .ref h0), (1, .int p1), (2, .int p2), (4, .int ((4 : Int32) + ((9 : Int32) * p3))), (5, .int x3), (6, .int q10)]) hx hb dX7_readAt_96 hl (k := 7) rfl (by first | rfl | decide) (by decide) rfl (fun ls hl => ?_)
            refine lv_goto (tgt := 35) hx hb dX7_readAt_99 (by decide) ?_
            exact ih q10 (y7_35 ||| q11) (y8_35 + (1 : Int32)) hd _ _ _ hP hD hS (lv_sub hl [2, 3, 4, 5, 6, 7, 1, 0] rfl)
          replace hd := hq11
          clear hq11
          refine lv_icmp_ge (tgt := 92) hx hb dX7_readAt_72 (by decide) (fun c12 => ?_) (fun c12 => ?_)
          · replace hd := ite_t c12 hd
            refine lv_iconst (v := 0) hx hb dX7_readAt_92 (by decide) ?_
            cases hd
            exact Kq11 _ _ _ hP hD hS (lv_sub hl [1, 2, 3, 4, 5, 0, 7] rfl)
          · replace hd := ite_f c12 hd
            refine lv_aload_n hx hb dX7_readAt_75 rfl (lv_at hl 1 rfl) ?_
            refine lv_iload_n hx hb dX7_readAt_76 rfl (lv_at hl 2 rfl) ?_
            refine lv_iload_n hx hb dX7_readAt_77 rfl (lv_at hl 3 rfl) ?_
            refine lv_iload hx hb dX7_readAt_78 (lv_at hl 4 rfl) ?_
            refine lv_iload hx hb dX7_readAt_80 (lv_at hl 7 rfl) ?_
            refine lv_iadd hx hb dX7_readAt_82 ?_
            obtain ⟨q13, hq13, hd⟩ := bnd_some hd
            have hPc : va_P (dC, dI) vwCl [(h0, .inr (7, [.ref h1, .ref h2, .int v_recorded, .ref h3, .ref h4, .ref h5, .int v_padLength, .ref h6, .int v_at, .int v_letter, .int v_hasUnder, .ref h7, .int v_numbersMany])), (h1, .inl (cI, 2628, .inl v_state))] _ := hP.sub [0, 1] rfl
            have hDc := hD.sub (ws' := [(h0, .inr (7, [.ref h1, .ref h2, .int v_recorded, .ref h3, .ref h4, .ref h5, .int v_padLength, .ref h6, .int v_at, .int v_letter, .int v_hasUnder, .ref h7, .int v_numbersMany])), (h1, .inl (cI, 2628, .inl v_state))]) [0, 1] (by decide) rfl
            have hFc := va_free (wc := [(h0, .inr (7, [.ref h1, .ref h2, .int v_recorded, .ref h3, .ref h4, .ref h5, .int v_padLength, .ref h6, .int v_at, .int v_letter, .int v_hasUnder, .ref h7, .int v_numbersMany])), (h1, .inl (cI, 2628, .inl v_state))]) hD hS hA [0, 1] rfl
            refine va_calli (va_runV (As := [.int p1, .int p2, .int (((4 : Int32) + ((9 : Int32) * p3)) + y8_35)]) (rest := [.int y7_35]) ⟨hx, hb, hml, hown, hts⟩ (c_X7_bitAt l dC dI cI cC cT h0 h1 h2 h3 h4 h5 h6 h7 H.size v_state v_recorded v_padLength v_at v_letter v_hasUnder v_numbersMany p1 p2 (((4 : Int32) + ((9 : Int32) * p3)) + y8_35) q13 hq13) (cwV 3 hts gX7_readAt_X7_bitAt rfl rfl rfl hv_X7_bitAt ⟨Nat.le_of_ble_eq_true rfl, Nat.le_of_ble_eq_true rfl⟩) ⟨preB_fb, va_recv hK hPc (ci := 7) (q0 := 0) rfl rfl, fun U hU hW => preB_mk hU hW hPc hK hDc hN⟩ rfl rfl hl.1 rfl (lv_room (Nat.le_of_ble_eq_true rfl)) dX7_readAt_83 ⟨Nat.zero_le _, Nat.zero_le _⟩) hS (fun q _ h => hFc q h) hFc (fun r_ u_ t H locs ht hvm hw hB hz1 hk1 hS => ?_)
            have hw : r_ = q13 := hw
            have hw := hw.symm
            subst hw
            obtain ⟨hP, hD⟩ := x_join (ws' := [(h0, .inr (7, [.ref h1, .ref h2, .int v_recorded, .ref h3, .ref h4, .ref h5, .int v_padLength, .ref h6, .int v_at, .int v_letter, .int v_hasUnder, .ref h7, .int v_numbersMany])), (h1, .inl (cI, 2628, .inl v_state))]) hP hD [0, 1] [] rfl rfl (by decide) (by decide) hk1 hFc ht hB [0, 1] (by decide) rfl
            clear hPc hDc hFc hk1 hB ht hz1 hvm
            refine lv_iload hx hb dX7_readAt_86 (lv_at hl 7 rfl) ?_
            refine lv_ishl hx hb dX7_readAt_88 ?_
            refine lv_goto (tgt := 93) hx hb dX7_readAt_89 (by decide) ?_
            cases hd
            exact Kq11 _ _ _ hP hD hS (lv_sub hl [1, 2, 3, 4, 5, 0, 7] rfl)
        replace hd := hq10
        clear hq10
        refine lv_if_eq (tgt := 63) hx hb dX7_readAt_44 (by decide) (fun c14 => ?_) (fun c14 => ?_)
        · replace hd := ite_t c14 hd
          refine lv_iconst (v := 0) hx hb dX7_readAt_63 (by decide) ?_
          cases hd
          exact Kq10 _ _ _ hP hD hS (lv_sub hl [0, 1, 2, 3, 4, 6, 7] rfl)
        · replace hd := ite_f c14 hd
          refine lv_aload_n hx hb dX7_readAt_47 rfl (lv_at hl 0 rfl) ?_
          refine lv_iload hx hb dX7_readAt_48 (lv_at hl 4 rfl) ?_
          refine lv_iload hx hb dX7_readAt_50 (lv_at hl 7 rfl) ?_
          refine lv_iadd hx hb dX7_readAt_52 ?_
          obtain ⟨q15, hq15, hd⟩ := bnd_some hd
          have hPc : va_P (dC, dI) vwCl [(h0, .inr (7, [.ref h1, .ref h2, .int v_recorded, .ref h3, .ref h4, .ref h5, .int v_padLength, .ref h6, .int v_at, .int v_letter, .int v_hasUnder, .ref h7, .int v_numbersMany])), (h1, .inl (cI, 2628, .inl v_state))] _ := hP.sub [0, 1] rfl
          have hDc := hD.sub (ws' := [(h0, .inr (7, [.ref h1, .ref h2, .int v_recorded, .ref h3, .ref h4, .ref h5, .int v_padLength, .ref h6, .int v_at, .int v_letter, .int v_hasUnder, .ref h7, .int v_numbersMany])), (h1, .inl (cI, 2628, .inl v_state))]) [0, 1] (by decide) rfl
          have hFc := va_free (wc := [(h0, .inr (7, [.ref h1, .ref h2, .int v_recorded, .ref h3, .ref h4, .ref h5, .int v_padLength, .ref h6, .int v_at, .int v_letter, .int v_hasUnder, .ref h7, .int v_numbersMany])), (h1, .inl (cI, 2628, .inl v_state))]) hD hS hA [0, 1] rfl
          refine va_calli (va_runV (As := [.int (x3 + y8_35)]) (rest := []) ⟨hx, hb, hml, hown, hts⟩ (c_X7_isHeard l dC dI cI cC cT h0 h1 h2 h3 h4 h5 h6 h7 H.size v_state v_recorded v_padLength v_at v_letter v_hasUnder v_numbersMany (x3 + y8_35) q15 hq15) (cwV 1 hts gX7_readAt_X7_isHeard rfl rfl rfl hv_X7_isHeard ⟨Nat.le_of_ble_eq_true rfl, Nat.le_of_ble_eq_true rfl⟩) ⟨preB_fb, va_recv hK hPc (ci := 7) (q0 := 0) rfl rfl, fun U hU hW => preB_mk hU hW hPc hK hDc hN⟩ rfl rfl hl.1 rfl (lv_room (Nat.le_of_ble_eq_true rfl)) dX7_readAt_53 ⟨Nat.zero_le _, Nat.zero_le _⟩) hS (fun q _ h => hFc q h) hFc (fun r_ u_ t H locs ht hvm hw hB hz1 hk1 hS => ?_)
          have hw : r_ = q15 := hw
          have hw := hw.symm
          subst hw
          obtain ⟨hP, hD⟩ := x_join (ws' := [(h0, .inr (7, [.ref h1, .ref h2, .int v_recorded, .ref h3, .ref h4, .ref h5, .int v_padLength, .ref h6, .int v_at, .int v_letter, .int v_hasUnder, .ref h7, .int v_numbersMany])), (h1, .inl (cI, 2628, .inl v_state))]) hP hD [0, 1] [] rfl rfl (by decide) (by decide) hk1 hFc ht hB [0, 1] (by decide) rfl
          clear hPc hDc hFc hk1 hB ht hz1 hvm
          refine lv_if_eq (tgt := 63) hx hb dX7_readAt_56 (by decide) (fun c16 => ?_) (fun c16 => ?_)
          · replace hd := ite_t c16 hd
            refine lv_iconst (v := 0) hx hb dX7_readAt_63 (by decide) ?_
            cases hd
            exact Kq10 _ _ _ hP hD hS (lv_sub hl [0, 1, 2, 3, 4, 6, 7] rfl)
          · replace hd := ite_f c16 hd
            refine lv_iconst (v := 1) hx hb dX7_readAt_59 (by decide) ?_
            refine lv_goto (tgt := 64) hx hb dX7_readAt_60 (by decide) ?_
            cases hd
            exact Kq10 _ _ _ hP hD hS (lv_sub hl [0, 1, 2, 3, 4, 6, 7] rfl)
  exact KL17 FU (1 : Int32) (0 : Int32) (0 : Int32) hq4 _ _ _ hP hD hS (lv_sub hl [5, 6, 7, 4, 3, 2, 1, 0] rfl)
def rmX7_howIs : Room := { frames := 6, cells := 0, slots := 0, locals := 141 }
theorem hp_X7_howIs : yX7_howIs.cls ≠ "java/lang/invoke/MethodHandle" ∧ yX7_howIs.cls ≠ "java/lang/invoke/VarHandle" ∧ (parseMethodDescriptor yX7_howIs.desc).map (fun d => d.parameters.length) = some 2 := by decide +kernel
theorem hv_X7_howIs : yX7_howIs.cls = RX7 ∧ yX7_howIs.cls ≠ "java/lang/invoke/MethodHandle" ∧ yX7_howIs.cls ≠ "java/lang/invoke/VarHandle" ∧ (parseMethodDescriptor yX7_howIs.desc).map (fun d => d.parameters.length) = some 2 := by decide +kernel
set_option maxHeartbeats 4000000 in
set_option maxRecDepth 100000 in
theorem c_X7_howIs (l : Launch) (dC : Nat → ClassId) (dI : Nat → Nat → Nat) (cI cC cT : ClassId) (h0 h1 h2 h3 h4 h5 h6 h7 : Nat) (sz : Nat) (v_state : (Nat → Int32)) (v_recorded : Int32) (v_padLength : Int32) (v_at : Int32) (v_letter : Int32) (v_hasUnder : Int32) (v_numbersMany : Int32) (p1 : Int32) (p2 : Int32) (r : Int32) (hd : den_X7_howIs v_state p1 p2 = some r) : Met l yX7_howIs wsX7_howIs rmX7_howIs (va_Pc [.ref h0, .int p1, .int p2] (preB sz (dC, dI) [(h0, .inr (7, [.ref h1, .ref h2, .int v_recorded, .ref h3, .ref h4, .ref h5, .int v_padLength, .ref h6, .int v_at, .int v_letter, .int v_hasUnder, .ref h7, .int v_numbersMany])), (h1, .inl (cI, 2628, .inl v_state))] [(cI, .int), (cC, .char), (cT, .object "CassetteTones$Tape")])) (va_Qi (S := Unit) (fun v _ => v = r) (fun _ t => posB (dC, dI) [(h0, .inr (7, [.ref h1, .ref h2, .int v_recorded, .ref h3, .ref h4, .ref h5, .int v_padLength, .ref h6, .int v_at, .int v_letter, .int v_hasUnder, .ref h7, .int v_numbersMany])), (h1, .inl (cI, 2628, .inl v_state))] [(cI, .int), (cC, .char), (cT, .object "CassetteTones$Tape")] (va_A [(h0, .inr (7, [.ref h1, .ref h2, .int v_recorded, .ref h3, .ref h4, .ref h5, .int v_padLength, .ref h6, .int v_at, .int v_letter, .int v_hasUnder, .ref h7, .int v_numbersMany])), (h1, .inl (cI, 2628, .inl v_state))] sz) t) (va_A [(h0, .inr (7, [.ref h1, .ref h2, .int v_recorded, .ref h3, .ref h4, .ref h5, .int v_padLength, .ref h6, .int v_at, .int v_letter, .int v_hasUnder, .ref h7, .int v_numbersMany])), (h1, .inl (cI, 2628, .inl v_state))] sz)) 0 0 (va_A [(h0, .inr (7, [.ref h1, .ref h2, .int v_recorded, .ref h3, .ref h4, .ref h5, .int v_padLength, .ref h6, .int v_at, .int v_letter, .int v_hasUnder, .ref h7, .int v_numbersMany])), (h1, .inl (cI, 2628, .inl v_state))] sz) := by
  refine x_met_i (by decide) rfl (Nat.le_of_ble_eq_true rfl) ?_
  intro p e s m args below meth c A Q H locs ls hx hb hml hown hts hK hN hA hP hD hS hl hend
  have hown : s.vm.findClass RX7 = some m.cls := hown
  have hl : lv_has ls 7 [(0, .ref h0), (1, .int p1), (2, .int p2)] := hl
  unfold den_X7_howIs at hd
  refine lv_aload_n hx hb dX7_howIs_0 rfl (lv_at hl 0 rfl) ?_
  refine lv_iload_n hx hb dX7_howIs_1 rfl (lv_at hl 1 rfl) ?_
  refine lv_iload_n hx hb dX7_howIs_2 rfl (lv_at hl 2 rfl) ?_
  obtain ⟨q1, hq1, hd⟩ := bnd_some hd
  have hPc : va_P (dC, dI) vwCl [(h0, .inr (7, [.ref h1, .ref h2, .int v_recorded, .ref h3, .ref h4, .ref h5, .int v_padLength, .ref h6, .int v_at, .int v_letter, .int v_hasUnder, .ref h7, .int v_numbersMany])), (h1, .inl (cI, 2628, .inl v_state))] _ := hP.sub [0, 1] rfl
  have hDc := hD.sub (ws' := [(h0, .inr (7, [.ref h1, .ref h2, .int v_recorded, .ref h3, .ref h4, .ref h5, .int v_padLength, .ref h6, .int v_at, .int v_letter, .int v_hasUnder, .ref h7, .int v_numbersMany])), (h1, .inl (cI, 2628, .inl v_state))]) [0, 1] (by decide) rfl
  have hFc := va_free (wc := [(h0, .inr (7, [.ref h1, .ref h2, .int v_recorded, .ref h3, .ref h4, .ref h5, .int v_padLength, .ref h6, .int v_at, .int v_letter, .int v_hasUnder, .ref h7, .int v_numbersMany])), (h1, .inl (cI, 2628, .inl v_state))]) hD hS hA [0, 1] rfl
  refine va_calli (va_runV (As := [.int p1, .int p2]) (rest := []) ⟨hx, hb, hml, hown, hts⟩ (c_X7_isLeaderLost l dC dI cI cC cT h0 h1 h2 h3 h4 h5 h6 h7 H.size v_state v_recorded v_padLength v_at v_letter v_hasUnder v_numbersMany p1 p2 q1 hq1) (cwV 2 hts gX7_howIs_X7_isLeaderLost rfl rfl rfl hv_X7_isLeaderLost ⟨Nat.le_of_ble_eq_true rfl, Nat.le_of_ble_eq_true rfl⟩) ⟨preB_fb, va_recv hK hPc (ci := 7) (q0 := 0) rfl rfl, fun U hU hW => preB_mk hU hW hPc hK hDc hN⟩ rfl rfl hl.1 rfl (lv_room (Nat.le_of_ble_eq_true rfl)) dX7_howIs_3 ⟨Nat.zero_le _, Nat.zero_le _⟩) hS (fun q _ h => hFc q h) hFc (fun r_ u_ t H locs ht hvm hw hB hz1 hk1 hS => ?_)
  have hw : r_ = q1 := hw
  have hw := hw.symm
  subst hw
  obtain ⟨hP, hD⟩ := x_join (ws' := [(h0, .inr (7, [.ref h1, .ref h2, .int v_recorded, .ref h3, .ref h4, .ref h5, .int v_padLength, .ref h6, .int v_at, .int v_letter, .int v_hasUnder, .ref h7, .int v_numbersMany])), (h1, .inl (cI, 2628, .inl v_state))]) hP hD [0, 1] [] rfl rfl (by decide) (by decide) hk1 hFc ht hB [0, 1] (by decide) rfl
  clear hPc hDc hFc hk1 hB ht hz1 hvm
  refine lv_if_eq (tgt := 11) hx hb dX7_howIs_6 (by decide) (fun c2 => ?_) (fun c2 => ?_)
  · replace hd := ite_t c2 hd
    refine lv_iconst (v := 0) hx hb dX7_howIs_11 (by decide) ?_
    refine lv_istore_n (lv' := [(3, .int (0 : Int32)), (0, .ref h0), (1, .int p1), (2, .int p2)]) hx hb dX7_howIs_12 rfl hl (by decide) rfl (fun ls hl => ?_)
    refine lv_iconst (v := 1) hx hb dX7_howIs_13 (by decide) ?_
    refine lv_istore (lv' := [(4, .int (1 : Int32)), (3, .int (0 : Int32)), (0, .ref h0), (1, .int p1), (2, .int p2)]) hx hb dX7_howIs_14 hl (by decide) rfl (fun ls hl => ?_)
    refine lv_iconst (v := 0) hx hb dX7_howIs_16 (by decide) ?_
    refine lv_istore (lv' := [(5, .int (0 : Int32)), (4, .int (1 : Int32)), (3, .int (0 : Int32)), (0, .ref h0), (1, .int p1), (2, .int p2)]) hx hb dX7_howIs_17 hl (by decide) rfl (fun ls hl => ?_)
    obtain ⟨q3, hq3, hd⟩ := bnd_some hd
    have Kq3 : ∀ (H : Heap) (locs : List Loc) (ls : Array Slot), va_P (dC, dI) vwCl [(h0, .inr (7, [.ref h1, .ref h2, .int v_recorded, .ref h3, .ref h4, .ref h5, .int v_padLength, .ref h6, .int v_at, .int v_letter, .int v_hasUnder, .ref h7, .int v_numbersMany])), (h1, .inl (cI, 2628, .inl v_state))] H → va_D A [(h0, .inr (7, [.ref h1, .ref h2, .int v_recorded, .ref h3, .ref h4, .ref h5, .int v_padLength, .ref h6, .int v_at, .int v_letter, .int v_hasUnder, .ref h7, .int v_numbersMany])), (h1, .inl (cI, 2628, .inl v_state))] → va_S A s.heap H locs → lv_has ls 7 [(0, .ref h0), (1, .int p1), (2, .int p2), (3, .int q3.1), (4, .int q3.2)] → W p l e rmX7_howIs s m args below meth c H locs 0 0 Q (F0 m 70 ls []) := by
      intro H locs ls hP hD hS hl
      refine lv_iload hx hb dX7_howIs_70 (lv_at hl 4 rfl) ?_
      refine lv_if_ne (tgt := 79) hx hb dX7_howIs_72 (by decide) (fun c4 => ?_) (fun c4 => ?_)
      · replace hd := ite_f c4 hd
        refine lv_aload_n hx hb dX7_howIs_79 rfl (lv_at hl 0 rfl) ?_
        refine lv_iload_n hx hb dX7_howIs_80 rfl (lv_at hl 1 rfl) ?_
        refine lv_iload_n hx hb dX7_howIs_81 rfl (lv_at hl 2 rfl) ?_
        refine lv_aload_n hx hb dX7_howIs_82 rfl (lv_at hl 0 rfl) ?_
        refine lv_iload_n hx hb dX7_howIs_83 rfl (lv_at hl 1 rfl) ?_
        refine lv_iconst (v := 2) hx hb dX7_howIs_84 (by decide) ?_
        obtain ⟨q5, hq5, hd⟩ := bnd_some hd
        have hPc : va_P (dC, dI) vwCl [(h0, .inr (7, [.ref h1, .ref h2, .int v_recorded, .ref h3, .ref h4, .ref h5, .int v_padLength, .ref h6, .int v_at, .int v_letter, .int v_hasUnder, .ref h7, .int v_numbersMany])), (h1, .inl (cI, 2628, .inl v_state))] _ := hP.sub [0, 1] rfl
        have hDc := hD.sub (ws' := [(h0, .inr (7, [.ref h1, .ref h2, .int v_recorded, .ref h3, .ref h4, .ref h5, .int v_padLength, .ref h6, .int v_at, .int v_letter, .int v_hasUnder, .ref h7, .int v_numbersMany])), (h1, .inl (cI, 2628, .inl v_state))]) [0, 1] (by decide) rfl
        have hFc := va_free (wc := [(h0, .inr (7, [.ref h1, .ref h2, .int v_recorded, .ref h3, .ref h4, .ref h5, .int v_padLength, .ref h6, .int v_at, .int v_letter, .int v_hasUnder, .ref h7, .int v_numbersMany])), (h1, .inl (cI, 2628, .inl v_state))]) hD hS hA [0, 1] rfl
        refine va_calli (va_runV (As := [.int p1, .int (2 : Int32)]) (rest := [.int p2, .int p1, .ref h0]) ⟨hx, hb, hml, hown, hts⟩ (c_X7_part l dC dI cI cC cT h0 h1 h2 h3 h4 h5 h6 h7 H.size v_state v_recorded v_padLength v_at v_letter v_hasUnder v_numbersMany p1 (2 : Int32) q5 hq5) (cwV 2 hts gX7_howIs_X7_part rfl rfl rfl hv_X7_part ⟨Nat.le_of_ble_eq_true rfl, Nat.le_of_ble_eq_true rfl⟩) ⟨preB_fb, va_recv hK hPc (ci := 7) (q0 := 0) rfl rfl, fun U hU hW => preB_mk hU hW hPc hK hDc hN⟩ rfl rfl hl.1 rfl (lv_room (Nat.le_of_ble_eq_true rfl)) dX7_howIs_85 ⟨Nat.zero_le _, Nat.zero_le _⟩) hS (fun q _ h => hFc q h) hFc (fun r_ u_ t H locs ht hvm hw hB hz1 hk1 hS => ?_)
        have hw : r_ = q5 := hw
        have hw := hw.symm
        subst hw
        obtain ⟨hP, hD⟩ := x_join (ws' := [(h0, .inr (7, [.ref h1, .ref h2, .int v_recorded, .ref h3, .ref h4, .ref h5, .int v_padLength, .ref h6, .int v_at, .int v_letter, .int v_hasUnder, .ref h7, .int v_numbersMany])), (h1, .inl (cI, 2628, .inl v_state))]) hP hD [0, 1] [] rfl rfl (by decide) (by decide) hk1 hFc ht hB [0, 1] (by decide) rfl
        clear hPc hDc hFc hk1 hB ht hz1 hvm
        obtain ⟨q6, hq6, hd⟩ := bnd_some hd
        have hPc : va_P (dC, dI) vwCl [(h0, .inr (7, [.ref h1, .ref h2, .int v_recorded, .ref h3, .ref h4, .ref h5, .int v_padLength, .ref h6, .int v_at, .int v_letter, .int v_hasUnder, .ref h7, .int v_numbersMany])), (h1, .inl (cI, 2628, .inl v_state))] _ := hP.sub [0, 1] rfl
        have hDc := hD.sub (ws' := [(h0, .inr (7, [.ref h1, .ref h2, .int v_recorded, .ref h3, .ref h4, .ref h5, .int v_padLength, .ref h6, .int v_at, .int v_letter, .int v_hasUnder, .ref h7, .int v_numbersMany])), (h1, .inl (cI, 2628, .inl v_state))]) [0, 1] (by decide) rfl
        have hFc := va_free (wc := [(h0, .inr (7, [.ref h1, .ref h2, .int v_recorded, .ref h3, .ref h4, .ref h5, .int v_padLength, .ref h6, .int v_at, .int v_letter, .int v_hasUnder, .ref h7, .int v_numbersMany])), (h1, .inl (cI, 2628, .inl v_state))]) hD hS hA [0, 1] rfl
        refine va_calli (va_runV (As := [.int p1, .int p2, .int q5]) (rest := []) ⟨hx, hb, hml, hown, hts⟩ (c_X7_readAt l dC dI cI cC cT h0 h1 h2 h3 h4 h5 h6 h7 H.size v_state v_recorded v_padLength v_at v_letter v_hasUnder v_numbersMany p1 p2 q5 q6 hq6) (cwV 3 hts gX7_howIs_X7_readAt rfl rfl rfl hv_X7_readAt ⟨Nat.le_of_ble_eq_true rfl, Nat.le_of_ble_eq_true rfl⟩) ⟨preB_fb, va_recv hK hPc (ci := 7) (q0 := 0) rfl rfl, fun U hU hW => preB_mk hU hW hPc hK hDc hN⟩ rfl rfl hl.1 rfl (lv_room (Nat.le_of_ble_eq_true rfl)) dX7_howIs_88 ⟨Nat.zero_le _, Nat.zero_le _⟩) hS (fun q _ h => hFc q h) hFc (fun r_ u_ t H locs ht hvm hw hB hz1 hk1 hS => ?_)
        have hw : r_ = q6 := hw
        have hw := hw.symm
        subst hw
        obtain ⟨hP, hD⟩ := x_join (ws' := [(h0, .inr (7, [.ref h1, .ref h2, .int v_recorded, .ref h3, .ref h4, .ref h5, .int v_padLength, .ref h6, .int v_at, .int v_letter, .int v_hasUnder, .ref h7, .int v_numbersMany])), (h1, .inl (cI, 2628, .inl v_state))]) hP hD [0, 1] [] rfl rfl (by decide) (by decide) hk1 hFc ht hB [0, 1] (by decide) rfl
        clear hPc hDc hFc hk1 hB ht hz1 hvm
        refine lv_iload_n hx hb dX7_howIs_91 rfl (lv_at hl 3 rfl) ?_
        refine lv_sipush (v := 256) hx hb dX7_howIs_92 (by decide) ?_
        refine lv_irem hx hb dX7_howIs_95 (by decide) ?_
        refine lv_icmp_ne (tgt := 103) hx hb dX7_howIs_96 (by decide) (fun c7 => ?_) (fun c7 => ?_)
        · replace hd := ite_f c7 hd
          refine lv_iconst (v := 3) hx hb dX7_howIs_103 (by decide) ?_
          cases hd
          exact hend (by rfl) hP hD hS dX7_howIs_104
        · replace hd := ite_t c7 hd
          refine lv_iconst (v := 0) hx hb dX7_howIs_99 (by decide) ?_
          refine lv_goto (tgt := 104) hx hb dX7_howIs_100 (by decide) ?_
          cases hd
          exact hend (by rfl) hP hD hS dX7_howIs_104
      · replace hd := ite_t c4 hd
        refine lv_iconst (v := 2) hx hb dX7_howIs_75 (by decide) ?_
        refine lv_goto (tgt := 104) hx hb dX7_howIs_76 (by decide) ?_
        cases hd
        exact hend (by rfl) hP hD hS dX7_howIs_104
    clear hd
    have KL14 : ∀ (fu : Nat) (y3_19 : Int32) (y4_19 : Int32) (y5_19 : Int32) (hd : den_X7_howIs_L19 p1 p2 v_state fu y3_19 y4_19 y5_19 = some q3) (H : Heap) (locs : List Loc) (ls : Array Slot), va_P (dC, dI) vwCl [(h0, .inr (7, [.ref h1, .ref h2, .int v_recorded, .ref h3, .ref h4, .ref h5, .int v_padLength, .ref h6, .int v_at, .int v_letter, .int v_hasUnder, .ref h7, .int v_numbersMany])), (h1, .inl (cI, 2628, .inl v_state))] H → va_D A [(h0, .inr (7, [.ref h1, .ref h2, .int v_recorded, .ref h3, .ref h4, .ref h5, .int v_padLength, .ref h6, .int v_at, .int v_letter, .int v_hasUnder, .ref h7, .int v_numbersMany])), (h1, .inl (cI, 2628, .inl v_state))] → va_S A s.heap H locs → lv_has ls 7 [(0, .ref h0), (1, .int p1), (2, .int p2), (3, .int y3_19), (4, .int y4_19), (5, .int y5_19)] → W p l e rmX7_howIs s m args below meth c H locs 0 0 Q (F0 m 19 ls []) := by
      intro fu
      induction fu with
      | zero => intro y3_19 y4_19 y5_19 hd; exact no_some hd
      | succ fu ih =>
        intro y3_19 y4_19 y5_19 hd H locs ls hP hD hS hl
        rw [den_X7_howIs_L19] at hd
        refine lv_iload hx hb dX7_howIs_19 (lv_at hl 5 rfl) ?_
        refine lv_aload_n hx hb dX7_howIs_21 rfl (lv_at hl 0 rfl) ?_
        refine lv_iload_n hx hb dX7_howIs_22 rfl (lv_at hl 1 rfl) ?_
        refine lv_iconst (v := 2) hx hb dX7_howIs_23 (by decide) ?_
        obtain ⟨q8, hq8, hd⟩ := bnd_some hd
        have hPc : va_P (dC, dI) vwCl [(h0, .inr (7, [.ref h1, .ref h2, .int v_recorded, .ref h3, .ref h4, .ref h5, .int v_padLength, .ref h6, .int v_at, .int v_letter, .int v_hasUnder, .ref h7, .int v_numbersMany])), (h1, .inl (cI, 2628, .inl v_state))] _ := hP.sub [0, 1] rfl
        have hDc := hD.sub (ws' := [(h0, .inr (7, [.ref h1, .ref h2, .int v_recorded, .ref h3, .ref h4, .ref h5, .int v_padLength, .ref h6, .int v_at, .int v_letter, .int v_hasUnder, .ref h7, .int v_numbersMany])), (h1, .inl (cI, 2628, .inl v_state))]) [0, 1] (by decide) rfl
        have hFc := va_free (wc := [(h0, .inr (7, [.ref h1, .ref h2, .int v_recorded, .ref h3, .ref h4, .ref h5, .int v_padLength, .ref h6, .int v_at, .int v_letter, .int v_hasUnder, .ref h7, .int v_numbersMany])), (h1, .inl (cI, 2628, .inl v_state))]) hD hS hA [0, 1] rfl
        refine va_calli (va_runV (As := [.int p1, .int (2 : Int32)]) (rest := [.int y5_19]) ⟨hx, hb, hml, hown, hts⟩ (c_X7_part l dC dI cI cC cT h0 h1 h2 h3 h4 h5 h6 h7 H.size v_state v_recorded v_padLength v_at v_letter v_hasUnder v_numbersMany p1 (2 : Int32) q8 hq8) (cwV 2 hts gX7_howIs_X7_part rfl rfl rfl hv_X7_part ⟨Nat.le_of_ble_eq_true rfl, Nat.le_of_ble_eq_true rfl⟩) ⟨preB_fb, va_recv hK hPc (ci := 7) (q0 := 0) rfl rfl, fun U hU hW => preB_mk hU hW hPc hK hDc hN⟩ rfl rfl hl.1 rfl (lv_room (Nat.le_of_ble_eq_true rfl)) dX7_howIs_24 ⟨Nat.zero_le _, Nat.zero_le _⟩) hS (fun q _ h => hFc q h) hFc (fun r_ u_ t H locs ht hvm hw hB hz1 hk1 hS => ?_)
        have hw : r_ = q8 := hw
        have hw := hw.symm
        subst hw
        obtain ⟨hP, hD⟩ := x_join (ws' := [(h0, .inr (7, [.ref h1, .ref h2, .int v_recorded, .ref h3, .ref h4, .ref h5, .int v_padLength, .ref h6, .int v_at, .int v_letter, .int v_hasUnder, .ref h7, .int v_numbersMany])), (h1, .inl (cI, 2628, .inl v_state))]) hP hD [0, 1] [] rfl rfl (by decide) (by decide) hk1 hFc ht hB [0, 1] (by decide) rfl
        clear hPc hDc hFc hk1 hB ht hz1 hvm
        refine lv_icmp_ge (tgt := 70) hx hb dX7_howIs_27 (by decide) (fun c9 => ?_) (fun c9 => ?_)
        · replace hd := ite_t c9 hd
          cases hd
          exact Kq3 _ _ _ hP hD hS (lv_sub hl [0, 1, 2, 3, 4] rfl)
        · replace hd := ite_f c9 hd
          refine lv_aload_n hx hb dX7_howIs_30 rfl (lv_at hl 0 rfl) ?_
          refine lv_iload_n hx hb dX7_howIs_31 rfl (lv_at hl 1 rfl) ?_
          refine lv_iload_n hx hb dX7_howIs_32 rfl (lv_at hl 2 rfl) ?_
          refine lv_iload hx hb dX7_howIs_33 (lv_at hl 5 rfl) ?_
          obtain ⟨q10, hq10, hd⟩ := bnd_some hd
          have hPc : va_P (dC, dI) vwCl [(h0, .inr (7, [.ref h1, .ref h2, .int v_recorded, .ref h3, .ref h4, .ref h5, .int v_padLength, .ref h6, .int v_at, .int v_letter, .int v_hasUnder, .ref h7, .int v_numbersMany])), (h1, .inl (cI, 2628, .inl v_state))] _ := hP.sub [0, 1] rfl
          have hDc := hD.sub (ws' := [(h0, .inr (7, [.ref h1, .ref h2, .int v_recorded, .ref h3, .ref h4, .ref h5, .int v_padLength, .ref h6, .int v_at, .int v_letter, .int v_hasUnder, .ref h7, .int v_numbersMany])), (h1, .inl (cI, 2628, .inl v_state))]) [0, 1] (by decide) rfl
          have hFc := va_free (wc := [(h0, .inr (7, [.ref h1, .ref h2, .int v_recorded, .ref h3, .ref h4, .ref h5, .int v_padLength, .ref h6, .int v_at, .int v_letter, .int v_hasUnder, .ref h7, .int v_numbersMany])), (h1, .inl (cI, 2628, .inl v_state))]) hD hS hA [0, 1] rfl
          refine va_calli (va_runV (As := [.int p1, .int p2, .int y5_19]) (rest := []) ⟨hx, hb, hml, hown, hts⟩ (c_X7_readAt l dC dI cI cC cT h0 h1 h2 h3 h4 h5 h6 h7 H.size v_state v_recorded v_padLength v_at v_letter v_hasUnder v_numbersMany p1 p2 y5_19 q10 hq10) (cwV 3 hts gX7_howIs_X7_readAt rfl rfl rfl hv_X7_readAt ⟨Nat.le_of_ble_eq_true rfl, Nat.le_of_ble_eq_true rfl⟩) ⟨preB_fb, va_recv hK hPc (ci := 7) (q0 := 0) rfl rfl, fun U hU hW => preB_mk hU hW hPc hK hDc hN⟩ rfl rfl hl.1 rfl (lv_room (Nat.le_of_ble_eq_true rfl)) dX7_howIs_35 ⟨Nat.zero_le _, Nat.zero_le _⟩) hS (fun q _ h => hFc q h) hFc (fun r_ u_ t H locs ht hvm hw hB hz1 hk1 hS => ?_)
          have hw : r_ = q10 := hw
          have hw := hw.symm
          subst hw
          obtain ⟨hP, hD⟩ := x_join (ws' := [(h0, .inr (7, [.ref h1, .ref h2, .int v_recorded, .ref h3, .ref h4, .ref h5, .int v_padLength, .ref h6, .int v_at, .int v_letter, .int v_hasUnder, .ref h7, .int v_numbersMany])), (h1, .inl (cI, 2628, .inl v_state))]) hP hD [0, 1] [] rfl rfl (by decide) (by decide) hk1 hFc ht hB [0, 1] (by decide) rfl
          clear hPc hDc hFc hk1 hB ht hz1 hvm
          refine lv_istore (lv' := [(6, .int q10), (0, .ref h0), (1, .int p1), (2, .int p2), (3, .int y3_19), (4, .int y4_19), (5, .int y5_19)]) hx hb dX7_howIs_38 hl (by decide) rfl (fun ls hl => ?_)
          refine lv_iload hx hb dX7_howIs_40 (lv_at hl 5 rfl) ?_
          obtain ⟨q11, hq11, hd⟩ := bnd_some hd
          have Kq11 : ∀ (H : Heap) (locs : List Loc) (ls : Array Slot), va_P (dC, dI) vwCl [(h0, .inr (7, [.ref h1, .ref h2, .int v_recorded, .ref h3, .ref h4, .ref h5, .int v_padLength, .ref h6, .int v_at, .int v_letter, .int v_hasUnder, .ref h7, .int v_numbersMany])), (h1, .inl (cI, 2628, .inl v_state))] H → va_D A [(h0, .inr (7, [.ref h1, .ref h2, .int v_recorded, .ref h3, .ref h4, .ref h5, .int v_padLength, .ref h6, .int v_at, .int v_letter, .int v_hasUnder, .ref h7, .int v_numbersMany])), (h1, .inl (cI, 2628, .inl v_state))] → va_S A s.heap H locs → lv_has ls 7 [(0, .ref h0), (1, .int p1), (2, .int p2), (3, .int y3_19), (5, .int y5_19), (6, .int q10)] → W p l e rmX7_howIs s m args below meth c H locs 0 0 Q (F0 m 57 ls [.int q11]) := by
            intro H locs ls hP hD hS hl
            refine lv_istore (lv' := [(4, .int q11), (0, .ref h0), (1, .int p1), (2, .int p2), (3, .int y3_19), (5, .int y5_19), (6, .int q10)]) hx hb dX7_howIs_57 hl (by decide) rfl (fun ls hl => ?_)
            refine lv_iload_n hx hb dX7_howIs_59 rfl (lv_at hl 4 rfl) ?_
            refine lv_iload hx hb dX7_howIs_60 (lv_at hl 6 rfl) ?_
            refine lv_iadd hx hb dX7_howIs_62 ?_
            refine lv_istore_n (lv' := [(3, .int (y3_19 + q10)), (4, .int q11), (0, .ref h0), (1, .int p1), (2, .int p2), (5, .int y5_19), (6, .int q10)]) hx hb dX7_howIs_63 rfl hl (by decide) rfl (fun ls hl => ?_)
            refine lv_iinc (v := (y5_19 + (1 : Int32))) (lv' := [(5, .int (y5_19 + (1 : Int32))), (3, .int (y3_19 + q10)), (4, .int q11), (0, .ref h0), (1, .int p1), (2, .int p2), (6, .int q10)]) hx hb dX7_howIs_64 hl (k := 5) rfl (by first | rfl | decide) (by decide) rfl (fun ls hl => ?_)
            refine lv_goto (tgt := 19) hx hb dX7_howIs_67 (by decide) ?_
            exact ih (y3_19 + q10) q11 (y5_19 + (1 : Int32)) hd _ _ _ hP hD hS (lv_sub hl [3, 4, 5, 1, 2, 0] rfl)
          replace hd := hq11
          clear hq11
          refine lv_if_eq (tgt := 56) hx hb dX7_howIs_42 (by decide) (fun c12 => ?_) (fun c12 => ?_)
          · replace hd := ite_t c12 hd
            refine lv_iconst (v := 0) hx hb dX7_howIs_56 (by decide) ?_
            cases hd
            exact Kq11 _ _ _ hP hD hS (lv_sub hl [1, 2, 3, 4, 6, 0] rfl)
          · replace hd := ite_f c12 hd
            refine lv_iload hx hb dX7_howIs_45 (lv_at hl 0 rfl) ?_
            refine lv_bipush (v := -6) hx hb dX7_howIs_47 (by decide) ?_
            refine lv_icmp_eq (tgt := 56) hx hb dX7_howIs_49 (by decide) (fun c13 => ?_) (fun c13 => ?_)
            · replace hd := ite_t c13 hd
              refine lv_iconst (v := 0) hx hb dX7_howIs_56 (by decide) ?_
              cases hd
              exact Kq11 _ _ _ hP hD hS (lv_sub hl [1, 2, 3, 4, 6, 0] rfl)
            · replace hd := ite_f c13 hd
              refine lv_iconst (v := 1) hx hb dX7_howIs_52 (by decide) ?_
              refine lv_goto (tgt := 57) hx hb dX7_howIs_53 (by decide) ?_
              cases hd
              exact Kq11 _ _ _ hP hD hS (lv_sub hl [1, 2, 3, 4, 6, 0] rfl)
    exact KL14 FU (0 : Int32) (1 : Int32) (0 : Int32) hq3 _ _ _ hP hD hS (lv_sub hl [3, 4, 5, 2, 1, 0] rfl)
  · replace hd := ite_f c2 hd
    refine lv_iconst (v := 1) hx hb dX7_howIs_9 (by decide) ?_
    cases hd
    exact hend (by rfl) hP hD hS dX7_howIs_10
def rmX7_findBy : Room := { frames := 6, cells := 0, slots := 0, locals := 141 }
theorem kX7_findBy_1 : (Cond.fieldLink RX7 25 "CassetteTonesModel" "found" "[I") ∈ wsX7_findBy := List.mem_of_getElem? (i := 1) (by decide +kernel)
theorem inX7_findBy_X7 : ∀ w ∈ wsX70, w ∈ wsX7_findBy := by decide +kernel
theorem hp_X7_findBy : yX7_findBy.cls ≠ "java/lang/invoke/MethodHandle" ∧ yX7_findBy.cls ≠ "java/lang/invoke/VarHandle" ∧ (parseMethodDescriptor yX7_findBy.desc).map (fun d => d.parameters.length) = some 2 := by decide +kernel
theorem hv_X7_findBy : yX7_findBy.cls = RX7 ∧ yX7_findBy.cls ≠ "java/lang/invoke/MethodHandle" ∧ yX7_findBy.cls ≠ "java/lang/invoke/VarHandle" ∧ (parseMethodDescriptor yX7_findBy.desc).map (fun d => d.parameters.length) = some 2 := by decide +kernel
set_option maxHeartbeats 4000000 in
set_option maxRecDepth 100000 in
theorem c_X7_findBy (l : Launch) (dC : Nat → ClassId) (dI : Nat → Nat → Nat) (cI cC cT : ClassId) (h0 h1 h2 h3 h4 h5 h6 h7 : Nat) (sz : Nat) (v_state : (Nat → Int32)) (v_recorded : Int32) (v_padLength : Int32) (v_found : (Nat → Int32)) (v_at : Int32) (v_letter : Int32) (v_hasUnder : Int32) (v_numbersMany : Int32) (p1 : Int32) (p2 : Int32) (r : (Nat → Int32)) (hd : den_X7_findBy v_state v_found p1 p2 = some r) : Met l yX7_findBy wsX7_findBy rmX7_findBy (va_Pc [.ref h0, .int p1, .int p2] (preB sz (dC, dI) [(h0, .inr (7, [.ref h1, .ref h2, .int v_recorded, .ref h3, .ref h4, .ref h5, .int v_padLength, .ref h6, .int v_at, .int v_letter, .int v_hasUnder, .ref h7, .int v_numbersMany])), (h1, .inl (cI, 2628, .inl v_state)), (h6, .inl (cI, 7, .inl v_found))] [(cI, .int), (cC, .char), (cT, .object "CassetteTones$Tape")])) (va_Qv (S := Unit) (fun _ => True) (fun _ t => posB (dC, dI) [(h0, .inr (7, [.ref h1, .ref h2, .int v_recorded, .ref h3, .ref h4, .ref h5, .int v_padLength, .ref h6, .int v_at, .int v_letter, .int v_hasUnder, .ref h7, .int v_numbersMany])), (h1, .inl (cI, 2628, .inl v_state)), (h6, .inl (cI, 7, .inl r))] [(cI, .int), (cC, .char), (cT, .object "CassetteTones$Tape")] (va_A [(h0, .inr (7, [.ref h1, .ref h2, .int v_recorded, .ref h3, .ref h4, .ref h5, .int v_padLength, .ref h6, .int v_at, .int v_letter, .int v_hasUnder, .ref h7, .int v_numbersMany])), (h1, .inl (cI, 2628, .inl v_state)), (h6, .inl (cI, 7, .inl v_found))] sz) t) (va_A [(h0, .inr (7, [.ref h1, .ref h2, .int v_recorded, .ref h3, .ref h4, .ref h5, .int v_padLength, .ref h6, .int v_at, .int v_letter, .int v_hasUnder, .ref h7, .int v_numbersMany])), (h1, .inl (cI, 2628, .inl v_state)), (h6, .inl (cI, 7, .inl v_found))] sz)) 0 0 (va_A [(h0, .inr (7, [.ref h1, .ref h2, .int v_recorded, .ref h3, .ref h4, .ref h5, .int v_padLength, .ref h6, .int v_at, .int v_letter, .int v_hasUnder, .ref h7, .int v_numbersMany])), (h1, .inl (cI, 2628, .inl v_state)), (h6, .inl (cI, 7, .inl v_found))] sz) := by
  refine x_met_v (by decide) rfl (Nat.le_of_ble_eq_true rfl) ?_
  intro p e s m args below meth c A Q H locs ls hx hb hml hown hts hK hN hA hP hD hS hl hend
  have hown : s.vm.findClass RX7 = some m.cls := hown
  have hl : lv_has ls 4 [(0, .ref h0), (1, .int p1), (2, .int p2)] := hl
  unfold den_X7_findBy at hd
  refine lv_iconst (v := 0) hx hb dX7_findBy_0 (by decide) ?_
  refine lv_istore_n (lv' := [(3, .int (0 : Int32)), (0, .ref h0), (1, .int p1), (2, .int p2)]) hx hb dX7_findBy_1 rfl hl (by decide) rfl (fun ls hl => ?_)
  obtain ⟨q1, hq1, hd⟩ := bnd_some hd
  have Kq1 : ∀ (H : Heap) (locs : List Loc) (ls : Array Slot), va_P (dC, dI) vwCl [(h0, .inr (7, [.ref h1, .ref h2, .int v_recorded, .ref h3, .ref h4, .ref h5, .int v_padLength, .ref h6, .int v_at, .int v_letter, .int v_hasUnder, .ref h7, .int v_numbersMany])), (h1, .inl (cI, 2628, .inl v_state)), (h6, .inl (cI, 7, .inl q1))] H → va_D A [(h0, .inr (7, [.ref h1, .ref h2, .int v_recorded, .ref h3, .ref h4, .ref h5, .int v_padLength, .ref h6, .int v_at, .int v_letter, .int v_hasUnder, .ref h7, .int v_numbersMany])), (h1, .inl (cI, 2628, .inl v_state)), (h6, .inl (cI, 7, .inl q1))] → va_S A s.heap H locs → lv_has ls 4 [] → W p l e rmX7_findBy s m args below meth c H locs 0 0 Q (F0 m 31 ls []) := by
    intro H locs ls hP hD hS hl
    cases hd
    exact hend hP hD hS dX7_findBy_31
  clear hd
  have KL6 : ∀ (fu : Nat) (y3_2 : Int32) (v_found_2 : (Nat → Int32)) (hd : den_X7_findBy_L2 p1 p2 v_state fu y3_2 v_found_2 = some q1) (H : Heap) (locs : List Loc) (ls : Array Slot), va_P (dC, dI) vwCl [(h0, .inr (7, [.ref h1, .ref h2, .int v_recorded, .ref h3, .ref h4, .ref h5, .int v_padLength, .ref h6, .int v_at, .int v_letter, .int v_hasUnder, .ref h7, .int v_numbersMany])), (h1, .inl (cI, 2628, .inl v_state)), (h6, .inl (cI, 7, .inl v_found_2))] H → va_D A [(h0, .inr (7, [.ref h1, .ref h2, .int v_recorded, .ref h3, .ref h4, .ref h5, .int v_padLength, .ref h6, .int v_at, .int v_letter, .int v_hasUnder, .ref h7, .int v_numbersMany])), (h1, .inl (cI, 2628, .inl v_state)), (h6, .inl (cI, 7, .inl v_found_2))] → va_S A s.heap H locs → lv_has ls 4 [(0, .ref h0), (1, .int p1), (2, .int p2), (3, .int y3_2)] → W p l e rmX7_findBy s m args below meth c H locs 0 0 Q (F0 m 2 ls []) := by
    intro fu
    induction fu with
    | zero => intro y3_2 v_found_2 hd; exact no_some hd
    | succ fu ih =>
      intro y3_2 v_found_2 hd H locs ls hP hD hS hl
      rw [den_X7_findBy_L2] at hd
      refine lv_iload_n hx hb dX7_findBy_2 rfl (lv_at hl 3 rfl) ?_
      refine lv_aload_n hx hb dX7_findBy_3 rfl (lv_at hl 0 rfl) ?_
      refine lv_iload_n hx hb dX7_findBy_4 rfl (lv_at hl 1 rfl) ?_
      refine lv_iconst (v := 2) hx hb dX7_findBy_5 (by decide) ?_
      obtain ⟨q2, hq2, hd⟩ := bnd_some hd
      have hPc : va_P (dC, dI) vwCl [(h0, .inr (7, [.ref h1, .ref h2, .int v_recorded, .ref h3, .ref h4, .ref h5, .int v_padLength, .ref h6, .int v_at, .int v_letter, .int v_hasUnder, .ref h7, .int v_numbersMany])), (h1, .inl (cI, 2628, .inl v_state))] _ := hP.sub [0, 1] rfl
      have hDc := hD.sub (ws' := [(h0, .inr (7, [.ref h1, .ref h2, .int v_recorded, .ref h3, .ref h4, .ref h5, .int v_padLength, .ref h6, .int v_at, .int v_letter, .int v_hasUnder, .ref h7, .int v_numbersMany])), (h1, .inl (cI, 2628, .inl v_state))]) [0, 1] (by decide) rfl
      have hFc := va_free (wc := [(h0, .inr (7, [.ref h1, .ref h2, .int v_recorded, .ref h3, .ref h4, .ref h5, .int v_padLength, .ref h6, .int v_at, .int v_letter, .int v_hasUnder, .ref h7, .int v_numbersMany])), (h1, .inl (cI, 2628, .inl v_state))]) hD hS hA [0, 1] rfl
      refine va_calli (va_runV (As := [.int p1, .int (2 : Int32)]) (rest := [.int y3_2]) ⟨hx, hb, hml, hown, hts⟩ (c_X7_part l dC dI cI cC cT h0 h1 h2 h3 h4 h5 h6 h7 H.size v_state v_recorded v_padLength v_at v_letter v_hasUnder v_numbersMany p1 (2 : Int32) q2 hq2) (cwV 2 hts gX7_findBy_X7_part rfl rfl rfl hv_X7_part ⟨Nat.le_of_ble_eq_true rfl, Nat.le_of_ble_eq_true rfl⟩) ⟨preB_fb, va_recv hK hPc (ci := 7) (q0 := 0) rfl rfl, fun U hU hW => preB_mk hU hW hPc hK hDc hN⟩ rfl rfl hl.1 rfl (lv_room (Nat.le_of_ble_eq_true rfl)) dX7_findBy_6 ⟨Nat.zero_le _, Nat.zero_le _⟩) hS (fun q _ h => hFc q h) hFc (fun r_ u_ t H locs ht hvm hw hB hz1 hk1 hS => ?_)
      have hw : r_ = q2 := hw
      have hw := hw.symm
      subst hw
      obtain ⟨hP, hD⟩ := x_join (ws' := [(h0, .inr (7, [.ref h1, .ref h2, .int v_recorded, .ref h3, .ref h4, .ref h5, .int v_padLength, .ref h6, .int v_at, .int v_letter, .int v_hasUnder, .ref h7, .int v_numbersMany])), (h1, .inl (cI, 2628, .inl v_state)), (h6, .inl (cI, 7, .inl v_found_2))]) hP hD [0, 1] [2] rfl rfl (by decide) (by decide) hk1 hFc ht hB [1, 2, 0] (by decide) rfl
      clear hPc hDc hFc hk1 hB ht hz1 hvm
      refine lv_icmp_ge (tgt := 31) hx hb dX7_findBy_9 (by decide) (fun c3 => ?_) (fun c3 => ?_)
      · replace hd := ite_t c3 hd
        cases hd
        exact Kq1 _ _ _ hP hD hS (lv_sub hl [] rfl)
      · replace hd := ite_f c3 hd
        refine lv_aload_n hx hb dX7_findBy_12 rfl (lv_at hl 0 rfl) ?_
        refine va_get (D := (dC, dI)) (ci := 7) (v := .ref h6) (C := RX7) (T := TX7) (N := 13) hx hb hts inX7_findBy_X7 hown hK hP 0 rfl rfl 7 (by decide) (hts _ kX7_findBy_1) (fun _ h9 => h9) rfl dX7_findBy_13 ?_
        refine lv_iload_n hx hb dX7_findBy_16 rfl (lv_at hl 3 rfl) ?_
        refine lv_aload_n hx hb dX7_findBy_17 rfl (lv_at hl 0 rfl) ?_
        refine lv_iload_n hx hb dX7_findBy_18 rfl (lv_at hl 1 rfl) ?_
        refine lv_iload_n hx hb dX7_findBy_19 rfl (lv_at hl 2 rfl) ?_
        refine lv_iload_n hx hb dX7_findBy_20 rfl (lv_at hl 3 rfl) ?_
        obtain ⟨q4, hq4, hd⟩ := bnd_some hd
        have hPc : va_P (dC, dI) vwCl [(h0, .inr (7, [.ref h1, .ref h2, .int v_recorded, .ref h3, .ref h4, .ref h5, .int v_padLength, .ref h6, .int v_at, .int v_letter, .int v_hasUnder, .ref h7, .int v_numbersMany])), (h1, .inl (cI, 2628, .inl v_state))] _ := hP.sub [0, 1] rfl
        have hDc := hD.sub (ws' := [(h0, .inr (7, [.ref h1, .ref h2, .int v_recorded, .ref h3, .ref h4, .ref h5, .int v_padLength, .ref h6, .int v_at, .int v_letter, .int v_hasUnder, .ref h7, .int v_numbersMany])), (h1, .inl (cI, 2628, .inl v_state))]) [0, 1] (by decide) rfl
        have hFc := va_free (wc := [(h0, .inr (7, [.ref h1, .ref h2, .int v_recorded, .ref h3, .ref h4, .ref h5, .int v_padLength, .ref h6, .int v_at, .int v_letter, .int v_hasUnder, .ref h7, .int v_numbersMany])), (h1, .inl (cI, 2628, .inl v_state))]) hD hS hA [0, 1] rfl
        refine va_calli (va_runV (As := [.int p1, .int p2, .int y3_2]) (rest := [.int y3_2, .ref h6]) ⟨hx, hb, hml, hown, hts⟩ (c_X7_readAt l dC dI cI cC cT h0 h1 h2 h3 h4 h5 h6 h7 H.size v_state v_recorded v_padLength v_at v_letter v_hasUnder v_numbersMany p1 p2 y3_2 q4 hq4) (cwV 3 hts gX7_findBy_X7_readAt rfl rfl rfl hv_X7_readAt ⟨Nat.le_of_ble_eq_true rfl, Nat.le_of_ble_eq_true rfl⟩) ⟨preB_fb, va_recv hK hPc (ci := 7) (q0 := 0) rfl rfl, fun U hU hW => preB_mk hU hW hPc hK hDc hN⟩ rfl rfl hl.1 rfl (lv_room (Nat.le_of_ble_eq_true rfl)) dX7_findBy_21 ⟨Nat.zero_le _, Nat.zero_le _⟩) hS (fun q _ h => hFc q h) hFc (fun r_ u_ t H locs ht hvm hw hB hz1 hk1 hS => ?_)
        have hw : r_ = q4 := hw
        have hw := hw.symm
        subst hw
        obtain ⟨hP, hD⟩ := x_join (ws' := [(h0, .inr (7, [.ref h1, .ref h2, .int v_recorded, .ref h3, .ref h4, .ref h5, .int v_padLength, .ref h6, .int v_at, .int v_letter, .int v_hasUnder, .ref h7, .int v_numbersMany])), (h1, .inl (cI, 2628, .inl v_state)), (h6, .inl (cI, 7, .inl v_found_2))]) hP hD [0, 1] [2] rfl rfl (by decide) (by decide) hk1 hFc ht hB [1, 2, 0] (by decide) rfl
        clear hPc hDc hFc hk1 hB ht hz1 hvm
        obtain ⟨g5, hd⟩ := gd_some hd
        refine x_iast (k := y3_2.toNatClampNeg) hx hb hK hP hD hS 2 0 rfl rfl (inb_in g5) rfl dX7_findBy_24 (fun H locs hP hD hS => ?_)
        have hP : va_P (dC, dI) vwCl [(h0, .inr (7, [.ref h1, .ref h2, .int v_recorded, .ref h3, .ref h4, .ref h5, .int v_padLength, .ref h6, .int v_at, .int v_letter, .int v_hasUnder, .ref h7, .int v_numbersMany])), (h1, .inl (cI, 2628, .inl v_state)), (h6, .inl (cI, 7, .inl (upd v_found_2 y3_2.toNatClampNeg q4)))] H := hP
        have hD : va_D A [(h0, .inr (7, [.ref h1, .ref h2, .int v_recorded, .ref h3, .ref h4, .ref h5, .int v_padLength, .ref h6, .int v_at, .int v_letter, .int v_hasUnder, .ref h7, .int v_numbersMany])), (h1, .inl (cI, 2628, .inl v_state)), (h6, .inl (cI, 7, .inl (upd v_found_2 y3_2.toNatClampNeg q4)))] := hD
        refine lv_iinc (v := (y3_2 + (1 : Int32))) (lv' := [(3, .int (y3_2 + (1 : Int32))), (0, .ref h0), (1, .int p1), (2, .int p2)]) hx hb dX7_findBy_25 hl (k := 3) rfl (by first | rfl | decide) (by decide) rfl (fun ls hl => ?_)
        refine lv_goto (tgt := 2) hx hb dX7_findBy_28 (by decide) ?_
        exact ih (y3_2 + (1 : Int32)) (upd v_found_2 y3_2.toNatClampNeg q4) hd _ _ _ hP hD hS (lv_sub hl [1, 2, 3, 0] rfl)
  exact KL6 FU (0 : Int32) v_found hq1 _ _ _ hP hD hS (lv_sub hl [1, 2, 3, 0] rfl)
def rmX7_findByBoth : Room := { frames := 6, cells := 0, slots := 0, locals := 141 }
theorem kX7_findByBoth_1 : (Cond.fieldLink RX7 25 "CassetteTonesModel" "found" "[I") ∈ wsX7_findByBoth := List.mem_of_getElem? (i := 1) (by decide +kernel)
theorem inX7_findByBoth_X7 : ∀ w ∈ wsX70, w ∈ wsX7_findByBoth := by decide +kernel
theorem hp_X7_findByBoth : yX7_findByBoth.cls ≠ "java/lang/invoke/MethodHandle" ∧ yX7_findByBoth.cls ≠ "java/lang/invoke/VarHandle" ∧ (parseMethodDescriptor yX7_findByBoth.desc).map (fun d => d.parameters.length) = some 1 := by decide +kernel
theorem hv_X7_findByBoth : yX7_findByBoth.cls = RX7 ∧ yX7_findByBoth.cls ≠ "java/lang/invoke/MethodHandle" ∧ yX7_findByBoth.cls ≠ "java/lang/invoke/VarHandle" ∧ (parseMethodDescriptor yX7_findByBoth.desc).map (fun d => d.parameters.length) = some 1 := by decide +kernel
set_option maxHeartbeats 4000000 in
set_option maxRecDepth 100000 in
theorem c_X7_findByBoth (l : Launch) (dC : Nat → ClassId) (dI : Nat → Nat → Nat) (cI cC cT : ClassId) (h0 h1 h2 h3 h4 h5 h6 h7 : Nat) (sz : Nat) (v_state : (Nat → Int32)) (v_recorded : Int32) (v_padLength : Int32) (v_found : (Nat → Int32)) (v_at : Int32) (v_letter : Int32) (v_hasUnder : Int32) (v_numbersMany : Int32) (p1 : Int32) (r : (Int32 × (Nat → Int32))) (hd : den_X7_findByBoth v_state v_found p1 = some r) : Met l yX7_findByBoth wsX7_findByBoth rmX7_findByBoth (va_Pc [.ref h0, .int p1] (preB sz (dC, dI) [(h0, .inr (7, [.ref h1, .ref h2, .int v_recorded, .ref h3, .ref h4, .ref h5, .int v_padLength, .ref h6, .int v_at, .int v_letter, .int v_hasUnder, .ref h7, .int v_numbersMany])), (h1, .inl (cI, 2628, .inl v_state)), (h6, .inl (cI, 7, .inl v_found))] [(cI, .int), (cC, .char), (cT, .object "CassetteTones$Tape")])) (va_Qi (S := Unit) (fun v _ => v = r.1) (fun _ t => posB (dC, dI) [(h0, .inr (7, [.ref h1, .ref h2, .int v_recorded, .ref h3, .ref h4, .ref h5, .int v_padLength, .ref h6, .int v_at, .int v_letter, .int v_hasUnder, .ref h7, .int v_numbersMany])), (h1, .inl (cI, 2628, .inl v_state)), (h6, .inl (cI, 7, .inl r.2))] [(cI, .int), (cC, .char), (cT, .object "CassetteTones$Tape")] (va_A [(h0, .inr (7, [.ref h1, .ref h2, .int v_recorded, .ref h3, .ref h4, .ref h5, .int v_padLength, .ref h6, .int v_at, .int v_letter, .int v_hasUnder, .ref h7, .int v_numbersMany])), (h1, .inl (cI, 2628, .inl v_state)), (h6, .inl (cI, 7, .inl v_found))] sz) t) (va_A [(h0, .inr (7, [.ref h1, .ref h2, .int v_recorded, .ref h3, .ref h4, .ref h5, .int v_padLength, .ref h6, .int v_at, .int v_letter, .int v_hasUnder, .ref h7, .int v_numbersMany])), (h1, .inl (cI, 2628, .inl v_state)), (h6, .inl (cI, 7, .inl v_found))] sz)) 0 0 (va_A [(h0, .inr (7, [.ref h1, .ref h2, .int v_recorded, .ref h3, .ref h4, .ref h5, .int v_padLength, .ref h6, .int v_at, .int v_letter, .int v_hasUnder, .ref h7, .int v_numbersMany])), (h1, .inl (cI, 2628, .inl v_state)), (h6, .inl (cI, 7, .inl v_found))] sz) := by
  refine x_met_z (by decide) rfl (Nat.le_of_ble_eq_true rfl) ?_
  intro p e s m args below meth c A Q H locs ls hx hb hml hown hts hK hN hA hP hD hS hl hend
  have hown : s.vm.findClass RX7 = some m.cls := hown
  have hl : lv_has ls 6 [(0, .ref h0), (1, .int p1)] := hl
  unfold den_X7_findByBoth at hd
  refine lv_iconst (v := 0) hx hb dX7_findByBoth_0 (by decide) ?_
  refine lv_istore_n (lv' := [(2, .int (0 : Int32)), (0, .ref h0), (1, .int p1)]) hx hb dX7_findByBoth_1 rfl hl (by decide) rfl (fun ls hl => ?_)
  refine lv_aload_n hx hb dX7_findByBoth_2 rfl (lv_at hl 1 rfl) ?_
  refine lv_iload_n hx hb dX7_findByBoth_3 rfl (lv_at hl 2 rfl) ?_
  refine lv_iconst (v := 0) hx hb dX7_findByBoth_4 (by decide) ?_
  obtain ⟨q1, hq1, hd⟩ := bnd_some hd
  have hPc : va_P (dC, dI) vwCl [(h0, .inr (7, [.ref h1, .ref h2, .int v_recorded, .ref h3, .ref h4, .ref h5, .int v_padLength, .ref h6, .int v_at, .int v_letter, .int v_hasUnder, .ref h7, .int v_numbersMany])), (h1, .inl (cI, 2628, .inl v_state))] _ := hP.sub [0, 1] rfl
  have hDc := hD.sub (ws' := [(h0, .inr (7, [.ref h1, .ref h2, .int v_recorded, .ref h3, .ref h4, .ref h5, .int v_padLength, .ref h6, .int v_at, .int v_letter, .int v_hasUnder, .ref h7, .int v_numbersMany])), (h1, .inl (cI, 2628, .inl v_state))]) [0, 1] (by decide) rfl
  have hFc := va_free (wc := [(h0, .inr (7, [.ref h1, .ref h2, .int v_recorded, .ref h3, .ref h4, .ref h5, .int v_padLength, .ref h6, .int v_at, .int v_letter, .int v_hasUnder, .ref h7, .int v_numbersMany])), (h1, .inl (cI, 2628, .inl v_state))]) hD hS hA [0, 1] rfl
  refine va_calli (va_runV (As := [.int p1, .int (0 : Int32)]) (rest := []) ⟨hx, hb, hml, hown, hts⟩ (c_X7_isLeaderLost l dC dI cI cC cT h0 h1 h2 h3 h4 h5 h6 h7 H.size v_state v_recorded v_padLength v_at v_letter v_hasUnder v_numbersMany p1 (0 : Int32) q1 hq1) (cwV 2 hts gX7_findByBoth_X7_isLeaderLost rfl rfl rfl hv_X7_isLeaderLost ⟨Nat.le_of_ble_eq_true rfl, Nat.le_of_ble_eq_true rfl⟩) ⟨preB_fb, va_recv hK hPc (ci := 7) (q0 := 0) rfl rfl, fun U hU hW => preB_mk hU hW hPc hK hDc hN⟩ rfl rfl hl.1 rfl (lv_room (Nat.le_of_ble_eq_true rfl)) dX7_findByBoth_5 ⟨Nat.zero_le _, Nat.zero_le _⟩) hS (fun q _ h => hFc q h) hFc (fun r_ u_ t H locs ht hvm hw hB hz1 hk1 hS => ?_)
  have hw : r_ = q1 := hw
  have hw := hw.symm
  subst hw
  obtain ⟨hP, hD⟩ := x_join (ws' := [(h0, .inr (7, [.ref h1, .ref h2, .int v_recorded, .ref h3, .ref h4, .ref h5, .int v_padLength, .ref h6, .int v_at, .int v_letter, .int v_hasUnder, .ref h7, .int v_numbersMany])), (h1, .inl (cI, 2628, .inl v_state)), (h6, .inl (cI, 7, .inl v_found))]) hP hD [0, 1] [2] rfl rfl (by decide) (by decide) hk1 hFc ht hB [1, 2, 0] (by decide) rfl
  clear hPc hDc hFc hk1 hB ht hz1 hvm
  obtain ⟨q2, hq2, hd⟩ := bnd_some hd
  have Kq2 : ∀ (H : Heap) (locs : List Loc) (ls : Array Slot), va_P (dC, dI) vwCl [(h0, .inr (7, [.ref h1, .ref h2, .int v_recorded, .ref h3, .ref h4, .ref h5, .int v_padLength, .ref h6, .int v_at, .int v_letter, .int v_hasUnder, .ref h7, .int v_numbersMany])), (h1, .inl (cI, 2628, .inl v_state)), (h6, .inl (cI, 7, .inl v_found))] H → va_D A [(h0, .inr (7, [.ref h1, .ref h2, .int v_recorded, .ref h3, .ref h4, .ref h5, .int v_padLength, .ref h6, .int v_at, .int v_letter, .int v_hasUnder, .ref h7, .int v_numbersMany])), (h1, .inl (cI, 2628, .inl v_state)), (h6, .inl (cI, 7, .inl v_found))] → va_S A s.heap H locs → lv_has ls 6 [(0, .ref h0), (1, .int p1), (2, .int (0 : Int32))] → W p l e rmX7_findByBoth s m args below meth c H locs 0 0 Q (F0 m 25 ls [.int q2]) := by
    intro H locs ls hP hD hS hl
    refine lv_istore_n (lv' := [(3, .int q2), (0, .ref h0), (1, .int p1), (2, .int (0 : Int32))]) hx hb dX7_findByBoth_25 rfl hl (by decide) rfl (fun ls hl => ?_)
    refine lv_iconst (v := 0) hx hb dX7_findByBoth_26 (by decide) ?_
    refine lv_istore (lv' := [(4, .int (0 : Int32)), (3, .int q2), (0, .ref h0), (1, .int p1), (2, .int (0 : Int32))]) hx hb dX7_findByBoth_27 hl (by decide) rfl (fun ls hl => ?_)
    obtain ⟨q3, hq3, hd⟩ := bnd_some hd
    have Kq3 : ∀ (H : Heap) (locs : List Loc) (ls : Array Slot), va_P (dC, dI) vwCl [(h0, .inr (7, [.ref h1, .ref h2, .int v_recorded, .ref h3, .ref h4, .ref h5, .int v_padLength, .ref h6, .int v_at, .int v_letter, .int v_hasUnder, .ref h7, .int v_numbersMany])), (h1, .inl (cI, 2628, .inl v_state)), (h6, .inl (cI, 7, .inl q3.2.2))] H → va_D A [(h0, .inr (7, [.ref h1, .ref h2, .int v_recorded, .ref h3, .ref h4, .ref h5, .int v_padLength, .ref h6, .int v_at, .int v_letter, .int v_hasUnder, .ref h7, .int v_numbersMany])), (h1, .inl (cI, 2628, .inl v_state)), (h6, .inl (cI, 7, .inl q3.2.2))] → va_S A s.heap H locs → lv_has ls 6 [(0, .ref h0), (1, .int p1), (2, .int q3.1), (3, .int q3.2.1)] → W p l e rmX7_findByBoth s m args below meth c H locs 0 0 Q (F0 m 115 ls []) := by
      intro H locs ls hP hD hS hl
      refine lv_aload_n hx hb dX7_findByBoth_115 rfl (lv_at hl 0 rfl) ?_
      refine lv_iload_n hx hb dX7_findByBoth_116 rfl (lv_at hl 1 rfl) ?_
      refine lv_iconst (v := 2) hx hb dX7_findByBoth_117 (by decide) ?_
      obtain ⟨q4, hq4, hd⟩ := bnd_some hd
      have hPc : va_P (dC, dI) vwCl [(h0, .inr (7, [.ref h1, .ref h2, .int v_recorded, .ref h3, .ref h4, .ref h5, .int v_padLength, .ref h6, .int v_at, .int v_letter, .int v_hasUnder, .ref h7, .int v_numbersMany])), (h1, .inl (cI, 2628, .inl v_state))] _ := hP.sub [0, 1] rfl
      have hDc := hD.sub (ws' := [(h0, .inr (7, [.ref h1, .ref h2, .int v_recorded, .ref h3, .ref h4, .ref h5, .int v_padLength, .ref h6, .int v_at, .int v_letter, .int v_hasUnder, .ref h7, .int v_numbersMany])), (h1, .inl (cI, 2628, .inl v_state))]) [0, 1] (by decide) rfl
      have hFc := va_free (wc := [(h0, .inr (7, [.ref h1, .ref h2, .int v_recorded, .ref h3, .ref h4, .ref h5, .int v_padLength, .ref h6, .int v_at, .int v_letter, .int v_hasUnder, .ref h7, .int v_numbersMany])), (h1, .inl (cI, 2628, .inl v_state))]) hD hS hA [0, 1] rfl
      refine va_calli (va_runV (As := [.int p1, .int (2 : Int32)]) (rest := []) ⟨hx, hb, hml, hown, hts⟩ (c_X7_part l dC dI cI cC cT h0 h1 h2 h3 h4 h5 h6 h7 H.size v_state v_recorded v_padLength v_at v_letter v_hasUnder v_numbersMany p1 (2 : Int32) q4 hq4) (cwV 2 hts gX7_findByBoth_X7_part rfl rfl rfl hv_X7_part ⟨Nat.le_of_ble_eq_true rfl, Nat.le_of_ble_eq_true rfl⟩) ⟨preB_fb, va_recv hK hPc (ci := 7) (q0 := 0) rfl rfl, fun U hU hW => preB_mk hU hW hPc hK hDc hN⟩ rfl rfl hl.1 rfl (lv_room (Nat.le_of_ble_eq_true rfl)) dX7_findByBoth_118 ⟨Nat.zero_le _, Nat.zero_le _⟩) hS (fun q _ h => hFc q h) hFc (fun r_ u_ t H locs ht hvm hw hB hz1 hk1 hS => ?_)
      have hw : r_ = q4 := hw
      have hw := hw.symm
      subst hw
      obtain ⟨hP, hD⟩ := x_join (ws' := [(h0, .inr (7, [.ref h1, .ref h2, .int v_recorded, .ref h3, .ref h4, .ref h5, .int v_padLength, .ref h6, .int v_at, .int v_letter, .int v_hasUnder, .ref h7, .int v_numbersMany])), (h1, .inl (cI, 2628, .inl v_state)), (h6, .inl (cI, 7, .inl q3.2.2))]) hP hD [0, 1] [2] rfl rfl (by decide) (by decide) hk1 hFc ht hB [1, 2, 0] (by decide) rfl
      clear hPc hDc hFc hk1 hB ht hz1 hvm
      refine lv_istore (lv' := [(4, .int q4), (0, .ref h0), (1, .int p1), (2, .int q3.1), (3, .int q3.2.1)]) hx hb dX7_findByBoth_121 hl (by decide) rfl (fun ls hl => ?_)
      refine lv_iload_n hx hb dX7_findByBoth_123 rfl (lv_at hl 4 rfl) ?_
      refine lv_if_eq (tgt := 163) hx hb dX7_findByBoth_124 (by decide) (fun c5 => ?_) (fun c5 => ?_)
      · replace hd := ite_t c5 hd
        refine lv_iconst (v := 0) hx hb dX7_findByBoth_163 (by decide) ?_
        cases hd
        exact hend (by rfl) (by rfl) hP hD hS dX7_findByBoth_164
      · replace hd := ite_f c5 hd
        refine lv_aload_n hx hb dX7_findByBoth_127 rfl (lv_at hl 1 rfl) ?_
        refine lv_iload_n hx hb dX7_findByBoth_128 rfl (lv_at hl 2 rfl) ?_
        refine lv_iconst (v := 0) hx hb dX7_findByBoth_129 (by decide) ?_
        refine lv_iload hx hb dX7_findByBoth_130 (lv_at hl 0 rfl) ?_
        obtain ⟨q6, hq6, hd⟩ := bnd_some hd
        have hPc : va_P (dC, dI) vwCl [(h0, .inr (7, [.ref h1, .ref h2, .int v_recorded, .ref h3, .ref h4, .ref h5, .int v_padLength, .ref h6, .int v_at, .int v_letter, .int v_hasUnder, .ref h7, .int v_numbersMany])), (h1, .inl (cI, 2628, .inl v_state))] _ := hP.sub [0, 1] rfl
        have hDc := hD.sub (ws' := [(h0, .inr (7, [.ref h1, .ref h2, .int v_recorded, .ref h3, .ref h4, .ref h5, .int v_padLength, .ref h6, .int v_at, .int v_letter, .int v_hasUnder, .ref h7, .int v_numbersMany])), (h1, .inl (cI, 2628, .inl v_state))]) [0, 1] (by decide) rfl
        have hFc := va_free (wc := [(h0, .inr (7, [.ref h1, .ref h2, .int v_recorded, .ref h3, .ref h4, .ref h5, .int v_padLength, .ref h6, .int v_at, .int v_letter, .int v_hasUnder, .ref h7, .int v_numbersMany])), (h1, .inl (cI, 2628, .inl v_state))]) hD hS hA [0, 1] rfl
        refine va_calli (va_runV (As := [.int p1, .int (0 : Int32), .int q4]) (rest := []) ⟨hx, hb, hml, hown, hts⟩ (c_X7_readAt l dC dI cI cC cT h0 h1 h2 h3 h4 h5 h6 h7 H.size v_state v_recorded v_padLength v_at v_letter v_hasUnder v_numbersMany p1 (0 : Int32) q4 q6 hq6) (cwV 3 hts gX7_findByBoth_X7_readAt rfl rfl rfl hv_X7_readAt ⟨Nat.le_of_ble_eq_true rfl, Nat.le_of_ble_eq_true rfl⟩) ⟨preB_fb, va_recv hK hPc (ci := 7) (q0 := 0) rfl rfl, fun U hU hW => preB_mk hU hW hPc hK hDc hN⟩ rfl rfl hl.1 rfl (lv_room (Nat.le_of_ble_eq_true rfl)) dX7_findByBoth_132 ⟨Nat.zero_le _, Nat.zero_le _⟩) hS (fun q _ h => hFc q h) hFc (fun r_ u_ t H locs ht hvm hw hB hz1 hk1 hS => ?_)
        have hw : r_ = q6 := hw
        have hw := hw.symm
        subst hw
        obtain ⟨hP, hD⟩ := x_join (ws' := [(h0, .inr (7, [.ref h1, .ref h2, .int v_recorded, .ref h3, .ref h4, .ref h5, .int v_padLength, .ref h6, .int v_at, .int v_letter, .int v_hasUnder, .ref h7, .int v_numbersMany])), (h1, .inl (cI, 2628, .inl v_state)), (h6, .inl (cI, 7, .inl q3.2.2))]) hP hD [0, 1] [2] rfl rfl (by decide) (by decide) hk1 hFc ht hB [1, 2, 0] (by decide) rfl
        clear hPc hDc hFc hk1 hB ht hz1 hvm
        refine lv_iload_n hx hb dX7_findByBoth_135 rfl (lv_at hl 3 rfl) ?_
        refine lv_sipush (v := 256) hx hb dX7_findByBoth_136 (by decide) ?_
        refine lv_irem hx hb dX7_findByBoth_139 (by decide) ?_
        refine lv_icmp_eq (tgt := 159) hx hb dX7_findByBoth_140 (by decide) (fun c7 => ?_) (fun c7 => ?_)
        · replace hd := ite_t c7 hd
          refine lv_iconst (v := 1) hx hb dX7_findByBoth_159 (by decide) ?_
          refine lv_goto (tgt := 164) hx hb dX7_findByBoth_160 (by decide) ?_
          cases hd
          exact hend (by rfl) (by rfl) hP hD hS dX7_findByBoth_164
        · replace hd := ite_f c7 hd
          refine lv_aload_n hx hb dX7_findByBoth_143 rfl (lv_at hl 1 rfl) ?_
          refine lv_iload_n hx hb dX7_findByBoth_144 rfl (lv_at hl 2 rfl) ?_
          refine lv_iconst (v := 1) hx hb dX7_findByBoth_145 (by decide) ?_
          refine lv_iload hx hb dX7_findByBoth_146 (lv_at hl 0 rfl) ?_
          obtain ⟨q8, hq8, hd⟩ := bnd_some hd
          have hPc : va_P (dC, dI) vwCl [(h0, .inr (7, [.ref h1, .ref h2, .int v_recorded, .ref h3, .ref h4, .ref h5, .int v_padLength, .ref h6, .int v_at, .int v_letter, .int v_hasUnder, .ref h7, .int v_numbersMany])), (h1, .inl (cI, 2628, .inl v_state))] _ := hP.sub [0, 1] rfl
          have hDc := hD.sub (ws' := [(h0, .inr (7, [.ref h1, .ref h2, .int v_recorded, .ref h3, .ref h4, .ref h5, .int v_padLength, .ref h6, .int v_at, .int v_letter, .int v_hasUnder, .ref h7, .int v_numbersMany])), (h1, .inl (cI, 2628, .inl v_state))]) [0, 1] (by decide) rfl
          have hFc := va_free (wc := [(h0, .inr (7, [.ref h1, .ref h2, .int v_recorded, .ref h3, .ref h4, .ref h5, .int v_padLength, .ref h6, .int v_at, .int v_letter, .int v_hasUnder, .ref h7, .int v_numbersMany])), (h1, .inl (cI, 2628, .inl v_state))]) hD hS hA [0, 1] rfl
          refine va_calli (va_runV (As := [.int p1, .int (1 : Int32), .int q4]) (rest := []) ⟨hx, hb, hml, hown, hts⟩ (c_X7_readAt l dC dI cI cC cT h0 h1 h2 h3 h4 h5 h6 h7 H.size v_state v_recorded v_padLength v_at v_letter v_hasUnder v_numbersMany p1 (1 : Int32) q4 q8 hq8) (cwV 3 hts gX7_findByBoth_X7_readAt rfl rfl rfl hv_X7_readAt ⟨Nat.le_of_ble_eq_true rfl, Nat.le_of_ble_eq_true rfl⟩) ⟨preB_fb, va_recv hK hPc (ci := 7) (q0 := 0) rfl rfl, fun U hU hW => preB_mk hU hW hPc hK hDc hN⟩ rfl rfl hl.1 rfl (lv_room (Nat.le_of_ble_eq_true rfl)) dX7_findByBoth_148 ⟨Nat.zero_le _, Nat.zero_le _⟩) hS (fun q _ h => hFc q h) hFc (fun r_ u_ t H locs ht hvm hw hB hz1 hk1 hS => ?_)
          have hw : r_ = q8 := hw
          have hw := hw.symm
          subst hw
          obtain ⟨hP, hD⟩ := x_join (ws' := [(h0, .inr (7, [.ref h1, .ref h2, .int v_recorded, .ref h3, .ref h4, .ref h5, .int v_padLength, .ref h6, .int v_at, .int v_letter, .int v_hasUnder, .ref h7, .int v_numbersMany])), (h1, .inl (cI, 2628, .inl v_state)), (h6, .inl (cI, 7, .inl q3.2.2))]) hP hD [0, 1] [2] rfl rfl (by decide) (by decide) hk1 hFc ht hB [1, 2, 0] (by decide) rfl
          clear hPc hDc hFc hk1 hB ht hz1 hvm
          refine lv_iload_n hx hb dX7_findByBoth_151 rfl (lv_at hl 3 rfl) ?_
          refine lv_sipush (v := 256) hx hb dX7_findByBoth_152 (by decide) ?_
          refine lv_irem hx hb dX7_findByBoth_155 (by decide) ?_
          refine lv_icmp_ne (tgt := 163) hx hb dX7_findByBoth_156 (by decide) (fun c9 => ?_) (fun c9 => ?_)
          · replace hd := ite_f c9 hd
            refine lv_iconst (v := 0) hx hb dX7_findByBoth_163 (by decide) ?_
            cases hd
            exact hend (by rfl) (by rfl) hP hD hS dX7_findByBoth_164
          · replace hd := ite_t c9 hd
            refine lv_iconst (v := 1) hx hb dX7_findByBoth_159 (by decide) ?_
            refine lv_goto (tgt := 164) hx hb dX7_findByBoth_160 (by decide) ?_
            cases hd
            exact hend (by rfl) (by rfl) hP hD hS dX7_findByBoth_164
    clear hd
    have KL23 : ∀ (fu : Nat) (y2_29 : Int32) (y3_29 : Int32) (y4_29 : Int32) (v_found_29 : (Nat → Int32)) (hd : den_X7_findByBoth_L29 p1 v_state fu y2_29 y3_29 y4_29 v_found_29 = some q3) (H : Heap) (locs : List Loc) (ls : Array Slot), va_P (dC, dI) vwCl [(h0, .inr (7, [.ref h1, .ref h2, .int v_recorded, .ref h3, .ref h4, .ref h5, .int v_padLength, .ref h6, .int v_at, .int v_letter, .int v_hasUnder, .ref h7, .int v_numbersMany])), (h1, .inl (cI, 2628, .inl v_state)), (h6, .inl (cI, 7, .inl v_found_29))] H → va_D A [(h0, .inr (7, [.ref h1, .ref h2, .int v_recorded, .ref h3, .ref h4, .ref h5, .int v_padLength, .ref h6, .int v_at, .int v_letter, .int v_hasUnder, .ref h7, .int v_numbersMany])), (h1, .inl (cI, 2628, .inl v_state)), (h6, .inl (cI, 7, .inl v_found_29))] → va_S A s.heap H locs → lv_has ls 6 [(0, .ref h0), (1, .int p1), (2, .int y2_29), (3, .int y3_29), (4, .int y4_29)] → W p l e rmX7_findByBoth s m args below meth c H locs 0 0 Q (F0 m 29 ls []) := by
      intro fu
      induction fu with
      | zero => intro y2_29 y3_29 y4_29 v_found_29 hd; exact no_some hd
      | succ fu ih =>
        intro y2_29 y3_29 y4_29 v_found_29 hd H locs ls hP hD hS hl
        rw [den_X7_findByBoth_L29] at hd
        refine lv_iload hx hb dX7_findByBoth_29 (lv_at hl 4 rfl) ?_
        refine lv_aload_n hx hb dX7_findByBoth_31 rfl (lv_at hl 0 rfl) ?_
        refine lv_iload_n hx hb dX7_findByBoth_32 rfl (lv_at hl 1 rfl) ?_
        refine lv_iconst (v := 2) hx hb dX7_findByBoth_33 (by decide) ?_
        obtain ⟨q10, hq10, hd⟩ := bnd_some hd
        have hPc : va_P (dC, dI) vwCl [(h0, .inr (7, [.ref h1, .ref h2, .int v_recorded, .ref h3, .ref h4, .ref h5, .int v_padLength, .ref h6, .int v_at, .int v_letter, .int v_hasUnder, .ref h7, .int v_numbersMany])), (h1, .inl (cI, 2628, .inl v_state))] _ := hP.sub [0, 1] rfl
        have hDc := hD.sub (ws' := [(h0, .inr (7, [.ref h1, .ref h2, .int v_recorded, .ref h3, .ref h4, .ref h5, .int v_padLength, .ref h6, .int v_at, .int v_letter, .int v_hasUnder, .ref h7, .int v_numbersMany])), (h1, .inl (cI, 2628, .inl v_state))]) [0, 1] (by decide) rfl
        have hFc := va_free (wc := [(h0, .inr (7, [.ref h1, .ref h2, .int v_recorded, .ref h3, .ref h4, .ref h5, .int v_padLength, .ref h6, .int v_at, .int v_letter, .int v_hasUnder, .ref h7, .int v_numbersMany])), (h1, .inl (cI, 2628, .inl v_state))]) hD hS hA [0, 1] rfl
        refine va_calli (va_runV (As := [.int p1, .int (2 : Int32)]) (rest := [.int y4_29]) ⟨hx, hb, hml, hown, hts⟩ (c_X7_part l dC dI cI cC cT h0 h1 h2 h3 h4 h5 h6 h7 H.size v_state v_recorded v_padLength v_at v_letter v_hasUnder v_numbersMany p1 (2 : Int32) q10 hq10) (cwV 2 hts gX7_findByBoth_X7_part rfl rfl rfl hv_X7_part ⟨Nat.le_of_ble_eq_true rfl, Nat.le_of_ble_eq_true rfl⟩) ⟨preB_fb, va_recv hK hPc (ci := 7) (q0 := 0) rfl rfl, fun U hU hW => preB_mk hU hW hPc hK hDc hN⟩ rfl rfl hl.1 rfl (lv_room (Nat.le_of_ble_eq_true rfl)) dX7_findByBoth_34 ⟨Nat.zero_le _, Nat.zero_le _⟩) hS (fun q _ h => hFc q h) hFc (fun r_ u_ t H locs ht hvm hw hB hz1 hk1 hS => ?_)
        have hw : r_ = q10 := hw
        have hw := hw.symm
        subst hw
        obtain ⟨hP, hD⟩ := x_join (ws' := [(h0, .inr (7, [.ref h1, .ref h2, .int v_recorded, .ref h3, .ref h4, .ref h5, .int v_padLength, .ref h6, .int v_at, .int v_letter, .int v_hasUnder, .ref h7, .int v_numbersMany])), (h1, .inl (cI, 2628, .inl v_state)), (h6, .inl (cI, 7, .inl v_found_29))]) hP hD [0, 1] [2] rfl rfl (by decide) (by decide) hk1 hFc ht hB [1, 2, 0] (by decide) rfl
        clear hPc hDc hFc hk1 hB ht hz1 hvm
        refine lv_icmp_ge (tgt := 115) hx hb dX7_findByBoth_37 (by decide) (fun c11 => ?_) (fun c11 => ?_)
        · replace hd := ite_t c11 hd
          cases hd
          exact Kq3 _ _ _ hP hD hS (lv_sub hl [0, 1, 2, 3] rfl)
        · replace hd := ite_f c11 hd
          refine lv_aload_n hx hb dX7_findByBoth_40 rfl (lv_at hl 0 rfl) ?_
          refine lv_iload_n hx hb dX7_findByBoth_41 rfl (lv_at hl 1 rfl) ?_
          refine lv_iconst (v := 0) hx hb dX7_findByBoth_42 (by decide) ?_
          refine lv_iload hx hb dX7_findByBoth_43 (lv_at hl 4 rfl) ?_
          obtain ⟨q12, hq12, hd⟩ := bnd_some hd
          have hPc : va_P (dC, dI) vwCl [(h0, .inr (7, [.ref h1, .ref h2, .int v_recorded, .ref h3, .ref h4, .ref h5, .int v_padLength, .ref h6, .int v_at, .int v_letter, .int v_hasUnder, .ref h7, .int v_numbersMany])), (h1, .inl (cI, 2628, .inl v_state))] _ := hP.sub [0, 1] rfl
          have hDc := hD.sub (ws' := [(h0, .inr (7, [.ref h1, .ref h2, .int v_recorded, .ref h3, .ref h4, .ref h5, .int v_padLength, .ref h6, .int v_at, .int v_letter, .int v_hasUnder, .ref h7, .int v_numbersMany])), (h1, .inl (cI, 2628, .inl v_state))]) [0, 1] (by decide) rfl
          have hFc := va_free (wc := [(h0, .inr (7, [.ref h1, .ref h2, .int v_recorded, .ref h3, .ref h4, .ref h5, .int v_padLength, .ref h6, .int v_at, .int v_letter, .int v_hasUnder, .ref h7, .int v_numbersMany])), (h1, .inl (cI, 2628, .inl v_state))]) hD hS hA [0, 1] rfl
          refine va_calli (va_runV (As := [.int p1, .int (0 : Int32), .int y4_29]) (rest := []) ⟨hx, hb, hml, hown, hts⟩ (c_X7_readAt l dC dI cI cC cT h0 h1 h2 h3 h4 h5 h6 h7 H.size v_state v_recorded v_padLength v_at v_letter v_hasUnder v_numbersMany p1 (0 : Int32) y4_29 q12 hq12) (cwV 3 hts gX7_findByBoth_X7_readAt rfl rfl rfl hv_X7_readAt ⟨Nat.le_of_ble_eq_true rfl, Nat.le_of_ble_eq_true rfl⟩) ⟨preB_fb, va_recv hK hPc (ci := 7) (q0 := 0) rfl rfl, fun U hU hW => preB_mk hU hW hPc hK hDc hN⟩ rfl rfl hl.1 rfl (lv_room (Nat.le_of_ble_eq_true rfl)) dX7_findByBoth_45 ⟨Nat.zero_le _, Nat.zero_le _⟩) hS (fun q _ h => hFc q h) hFc (fun r_ u_ t H locs ht hvm hw hB hz1 hk1 hS => ?_)
          have hw : r_ = q12 := hw
          have hw := hw.symm
          subst hw
          obtain ⟨hP, hD⟩ := x_join (ws' := [(h0, .inr (7, [.ref h1, .ref h2, .int v_recorded, .ref h3, .ref h4, .ref h5, .int v_padLength, .ref h6, .int v_at, .int v_letter, .int v_hasUnder, .ref h7, .int v_numbersMany])), (h1, .inl (cI, 2628, .inl v_state)), (h6, .inl (cI, 7, .inl v_found_29))]) hP hD [0, 1] [2] rfl rfl (by decide) (by decide) hk1 hFc ht hB [1, 2, 0] (by decide) rfl
          clear hPc hDc hFc hk1 hB ht hz1 hvm
          refine lv_istore (lv' := [(5, .int q12), (0, .ref h0), (1, .int p1), (2, .int y2_29), (3, .int y3_29), (4, .int y4_29)]) hx hb dX7_findByBoth_48 hl (by decide) rfl (fun ls hl => ?_)
          refine lv_aload_n hx hb dX7_findByBoth_50 rfl (lv_at hl 1 rfl) ?_
          refine va_get (D := (dC, dI)) (ci := 7) (v := .ref h6) (C := RX7) (T := TX7) (N := 13) hx hb hts inX7_findByBoth_X7 hown hK hP 0 rfl rfl 7 (by decide) (hts _ kX7_findByBoth_1) (fun _ h9 => h9) rfl dX7_findByBoth_51 ?_
          refine lv_iload hx hb dX7_findByBoth_54 (lv_at hl 5 rfl) ?_
          refine lv_iload hx hb dX7_findByBoth_56 (lv_at hl 0 rfl) ?_
          refine lv_bipush (v := -6) hx hb dX7_findByBoth_58 (by decide) ?_
          obtain ⟨q13, hq13, hd⟩ := bnd_some hd
          have Kq13 : ∀ (H : Heap) (locs : List Loc) (ls : Array Slot), va_P (dC, dI) vwCl [(h0, .inr (7, [.ref h1, .ref h2, .int v_recorded, .ref h3, .ref h4, .ref h5, .int v_padLength, .ref h6, .int v_at, .int v_letter, .int v_hasUnder, .ref h7, .int v_numbersMany])), (h1, .inl (cI, 2628, .inl v_state)), (h6, .inl (cI, 7, .inl v_found_29))] H → va_D A [(h0, .inr (7, [.ref h1, .ref h2, .int v_recorded, .ref h3, .ref h4, .ref h5, .int v_padLength, .ref h6, .int v_at, .int v_letter, .int v_hasUnder, .ref h7, .int v_numbersMany])), (h1, .inl (cI, 2628, .inl v_state)), (h6, .inl (cI, 7, .inl v_found_29))] → va_S A s.heap H locs → lv_has ls 6 [(0, .ref h0), (1, .int p1), (2, .int y2_29), (3, .int y3_29), (4, .int y4_29)] → W p l e rmX7_findByBoth s m args below meth c H locs 0 0 Q (F0 m 76 ls [.int q13, .int y4_29, .ref h6]) := by
            intro H locs ls hP hD hS hl
            obtain ⟨g14, hd⟩ := gd_some hd
            refine x_iast (k := y4_29.toNatClampNeg) hx hb hK hP hD hS 2 0 rfl rfl (inb_in g14) rfl dX7_findByBoth_76 (fun H locs hP hD hS => ?_)
            have hP : va_P (dC, dI) vwCl [(h0, .inr (7, [.ref h1, .ref h2, .int v_recorded, .ref h3, .ref h4, .ref h5, .int v_padLength, .ref h6, .int v_at, .int v_letter, .int v_hasUnder, .ref h7, .int v_numbersMany])), (h1, .inl (cI, 2628, .inl v_state)), (h6, .inl (cI, 7, .inl (upd v_found_29 y4_29.toNatClampNeg q13)))] H := hP
            have hD : va_D A [(h0, .inr (7, [.ref h1, .ref h2, .int v_recorded, .ref h3, .ref h4, .ref h5, .int v_padLength, .ref h6, .int v_at, .int v_letter, .int v_hasUnder, .ref h7, .int v_numbersMany])), (h1, .inl (cI, 2628, .inl v_state)), (h6, .inl (cI, 7, .inl (upd v_found_29 y4_29.toNatClampNeg q13)))] := hD
            refine lv_iload_n hx hb dX7_findByBoth_77 rfl (lv_at hl 3 rfl) ?_
            obtain ⟨q15, hq15, hd⟩ := bnd_some hd
            have Kq15 : ∀ (H : Heap) (locs : List Loc) (ls : Array Slot), va_P (dC, dI) vwCl [(h0, .inr (7, [.ref h1, .ref h2, .int v_recorded, .ref h3, .ref h4, .ref h5, .int v_padLength, .ref h6, .int v_at, .int v_letter, .int v_hasUnder, .ref h7, .int v_numbersMany])), (h1, .inl (cI, 2628, .inl v_state)), (h6, .inl (cI, 7, .inl (upd v_found_29 y4_29.toNatClampNeg q13)))] H → va_D A [(h0, .inr (7, [.ref h1, .ref h2, .int v_recorded, .ref h3, .ref h4, .ref h5, .int v_padLength, .ref h6, .int v_at, .int v_letter, .int v_hasUnder, .ref h7, .int v_numbersMany])), (h1, .inl (cI, 2628, .inl v_state)), (h6, .inl (cI, 7, .inl (upd v_found_29 y4_29.toNatClampNeg q13)))] → va_S A s.heap H locs → lv_has ls 6 [(0, .ref h0), (1, .int p1), (2, .int y2_29), (4, .int y4_29)] → W p l e rmX7_findByBoth s m args below meth c H locs 0 0 Q (F0 m 98 ls [.int q15]) := by
              intro H locs ls hP hD hS hl
              refine lv_istore_n (lv' := [(3, .int q15), (0, .ref h0), (1, .int p1), (2, .int y2_29), (4, .int y4_29)]) hx hb dX7_findByBoth_98 rfl hl (by decide) rfl (fun ls hl => ?_)
              refine lv_iload_n hx hb dX7_findByBoth_99 rfl (lv_at hl 3 rfl) ?_
              refine lv_aload_n hx hb dX7_findByBoth_100 rfl (lv_at hl 1 rfl) ?_
              refine va_get (D := (dC, dI)) (ci := 7) (v := .ref h6) (C := RX7) (T := TX7) (N := 13) hx hb hts inX7_findByBoth_X7 hown hK hP 0 rfl rfl 7 (by decide) (hts _ kX7_findByBoth_1) (fun _ h9 => h9) rfl dX7_findByBoth_101 ?_
              refine lv_iload hx hb dX7_findByBoth_104 (lv_at hl 4 rfl) ?_
              obtain ⟨g16, hd⟩ := gd_some hd
              refine x_iald (k := y4_29.toNatClampNeg) hx hb hK hP 2 0 rfl rfl (inb_in g16) rfl dX7_findByBoth_106 ?_
              refine lv_iadd hx hb dX7_findByBoth_107 ?_
              refine lv_topi (fun x17 ex17 => ?_)
              replace hd := nm_some ex17 hd
              refine lv_istore_n (lv' := [(2, .int x17), (3, .int q15), (0, .ref h0), (1, .int p1), (4, .int y4_29)]) hx hb dX7_findByBoth_108 rfl hl (by decide) rfl (fun ls hl => ?_)
              refine lv_iinc (v := (y4_29 + (1 : Int32))) (lv' := [(4, .int (y4_29 + (1 : Int32))), (2, .int x17), (3, .int q15), (0, .ref h0), (1, .int p1)]) hx hb dX7_findByBoth_109 hl (k := 4) rfl (by first | rfl | decide) (by decide) rfl (fun ls hl => ?_)
              refine lv_goto (tgt := 29) hx hb dX7_findByBoth_112 (by decide) ?_
              exact ih x17 q15 (y4_29 + (1 : Int32)) (upd v_found_29 y4_29.toNatClampNeg q13) hd _ _ _ hP hD hS (lv_sub hl [3, 4, 1, 2, 0] rfl)
            replace hd := hq15
            clear hq15
            refine lv_if_eq (tgt := 97) hx hb dX7_findByBoth_78 (by decide) (fun c18 => ?_) (fun c18 => ?_)
            · replace hd := ite_t c18 hd
              refine lv_iconst (v := 0) hx hb dX7_findByBoth_97 (by decide) ?_
              cases hd
              exact Kq15 _ _ _ hP hD hS (lv_sub hl [0, 1, 2, 4] rfl)
            · replace hd := ite_f c18 hd
              refine lv_aload_n hx hb dX7_findByBoth_81 rfl (lv_at hl 0 rfl) ?_
              refine va_get (D := (dC, dI)) (ci := 7) (v := .ref h6) (C := RX7) (T := TX7) (N := 13) hx hb hts inX7_findByBoth_X7 hown hK hP 0 rfl rfl 7 (by decide) (hts _ kX7_findByBoth_1) (fun _ h9 => h9) rfl dX7_findByBoth_82 ?_
              refine lv_iload hx hb dX7_findByBoth_85 (lv_at hl 4 rfl) ?_
              obtain ⟨g19, hd⟩ := gd_some hd
              refine x_iald (k := y4_29.toNatClampNeg) hx hb hK hP 2 0 rfl rfl (inb_in g19) rfl dX7_findByBoth_87 ?_
              refine lv_bipush (v := -6) hx hb dX7_findByBoth_88 (by decide) ?_
              refine lv_icmp_eq (tgt := 97) hx hb dX7_findByBoth_90 (by decide) (fun c20 => ?_) (fun c20 => ?_)
              · replace hd := ite_t c20 hd
                refine lv_iconst (v := 0) hx hb dX7_findByBoth_97 (by decide) ?_
                cases hd
                exact Kq15 _ _ _ hP hD hS (lv_sub hl [0, 1, 2, 4] rfl)
              · replace hd := ite_f c20 hd
                refine lv_iconst (v := 1) hx hb dX7_findByBoth_93 (by decide) ?_
                refine lv_goto (tgt := 98) hx hb dX7_findByBoth_94 (by decide) ?_
                cases hd
                exact Kq15 _ _ _ hP hD hS (lv_sub hl [0, 1, 2, 4] rfl)
          replace hd := hq13
          clear hq13
          refine lv_icmp_ne (tgt := 74) hx hb dX7_findByBoth_60 (by decide) (fun c21 => ?_) (fun c21 => ?_)
          · replace hd := ite_f c21 hd
            refine lv_iload hx hb dX7_findByBoth_74 (lv_at hl 0 rfl) ?_
            cases hd
            exact Kq13 _ _ _ hP hD hS (lv_sub hl [1, 2, 3, 4, 5] rfl)
          · replace hd := ite_t c21 hd
            refine lv_aload_n hx hb dX7_findByBoth_63 rfl (lv_at hl 1 rfl) ?_
            refine lv_iload_n hx hb dX7_findByBoth_64 rfl (lv_at hl 2 rfl) ?_
            refine lv_iconst (v := 1) hx hb dX7_findByBoth_65 (by decide) ?_
            refine lv_iload hx hb dX7_findByBoth_66 (lv_at hl 5 rfl) ?_
            obtain ⟨q22, hq22, hd⟩ := bnd_some hd
            have hPc : va_P (dC, dI) vwCl [(h0, .inr (7, [.ref h1, .ref h2, .int v_recorded, .ref h3, .ref h4, .ref h5, .int v_padLength, .ref h6, .int v_at, .int v_letter, .int v_hasUnder, .ref h7, .int v_numbersMany])), (h1, .inl (cI, 2628, .inl v_state))] _ := hP.sub [0, 1] rfl
            have hDc := hD.sub (ws' := [(h0, .inr (7, [.ref h1, .ref h2, .int v_recorded, .ref h3, .ref h4, .ref h5, .int v_padLength, .ref h6, .int v_at, .int v_letter, .int v_hasUnder, .ref h7, .int v_numbersMany])), (h1, .inl (cI, 2628, .inl v_state))]) [0, 1] (by decide) rfl
            have hFc := va_free (wc := [(h0, .inr (7, [.ref h1, .ref h2, .int v_recorded, .ref h3, .ref h4, .ref h5, .int v_padLength, .ref h6, .int v_at, .int v_letter, .int v_hasUnder, .ref h7, .int v_numbersMany])), (h1, .inl (cI, 2628, .inl v_state))]) hD hS hA [0, 1] rfl
            refine va_calli (va_runV (As := [.int p1, .int (1 : Int32), .int y4_29]) (rest := [.int y4_29, .ref h6]) ⟨hx, hb, hml, hown, hts⟩ (c_X7_readAt l dC dI cI cC cT h0 h1 h2 h3 h4 h5 h6 h7 H.size v_state v_recorded v_padLength v_at v_letter v_hasUnder v_numbersMany p1 (1 : Int32) y4_29 q22 hq22) (cwV 3 hts gX7_findByBoth_X7_readAt rfl rfl rfl hv_X7_readAt ⟨Nat.le_of_ble_eq_true rfl, Nat.le_of_ble_eq_true rfl⟩) ⟨preB_fb, va_recv hK hPc (ci := 7) (q0 := 0) rfl rfl, fun U hU hW => preB_mk hU hW hPc hK hDc hN⟩ rfl rfl hl.1 rfl (lv_room (Nat.le_of_ble_eq_true rfl)) dX7_findByBoth_68 ⟨Nat.zero_le _, Nat.zero_le _⟩) hS (fun q _ h => hFc q h) hFc (fun r_ u_ t H locs ht hvm hw hB hz1 hk1 hS => ?_)
            have hw : r_ = q22 := hw
            have hw := hw.symm
            subst hw
            obtain ⟨hP, hD⟩ := x_join (ws' := [(h0, .inr (7, [.ref h1, .ref h2, .int v_recorded, .ref h3, .ref h4, .ref h5, .int v_padLength, .ref h6, .int v_at, .int v_letter, .int v_hasUnder, .ref h7, .int v_numbersMany])), (h1, .inl (cI, 2628, .inl v_state)), (h6, .inl (cI, 7, .inl v_found_29))]) hP hD [0, 1] [2] rfl rfl (by decide) (by decide) hk1 hFc ht hB [1, 2, 0] (by decide) rfl
            clear hPc hDc hFc hk1 hB ht hz1 hvm
            refine lv_goto (tgt := 76) hx hb dX7_findByBoth_71 (by decide) ?_
            cases hd
            exact Kq13 _ _ _ hP hD hS (lv_sub hl [1, 2, 3, 4, 5] rfl)
    exact KL23 FU (0 : Int32) q2 (0 : Int32) v_found hq3 _ _ _ hP hD hS (lv_sub hl [2, 3, 4, 1, 0] rfl)
  replace hd := hq2
  clear hq2
  refine lv_if_ne (tgt := 24) hx hb dX7_findByBoth_8 (by decide) (fun c24 => ?_) (fun c24 => ?_)
  · replace hd := ite_f c24 hd
    refine lv_iconst (v := 0) hx hb dX7_findByBoth_24 (by decide) ?_
    cases hd
    exact Kq2 _ _ _ hP hD hS (lv_sub hl [1, 2, 0] rfl)
  · replace hd := ite_t c24 hd
    refine lv_aload_n hx hb dX7_findByBoth_11 rfl (lv_at hl 1 rfl) ?_
    refine lv_iload_n hx hb dX7_findByBoth_12 rfl (lv_at hl 2 rfl) ?_
    refine lv_iconst (v := 1) hx hb dX7_findByBoth_13 (by decide) ?_
    obtain ⟨q25, hq25, hd⟩ := bnd_some hd
    have hPc : va_P (dC, dI) vwCl [(h0, .inr (7, [.ref h1, .ref h2, .int v_recorded, .ref h3, .ref h4, .ref h5, .int v_padLength, .ref h6, .int v_at, .int v_letter, .int v_hasUnder, .ref h7, .int v_numbersMany])), (h1, .inl (cI, 2628, .inl v_state))] _ := hP.sub [0, 1] rfl
    have hDc := hD.sub (ws' := [(h0, .inr (7, [.ref h1, .ref h2, .int v_recorded, .ref h3, .ref h4, .ref h5, .int v_padLength, .ref h6, .int v_at, .int v_letter, .int v_hasUnder, .ref h7, .int v_numbersMany])), (h1, .inl (cI, 2628, .inl v_state))]) [0, 1] (by decide) rfl
    have hFc := va_free (wc := [(h0, .inr (7, [.ref h1, .ref h2, .int v_recorded, .ref h3, .ref h4, .ref h5, .int v_padLength, .ref h6, .int v_at, .int v_letter, .int v_hasUnder, .ref h7, .int v_numbersMany])), (h1, .inl (cI, 2628, .inl v_state))]) hD hS hA [0, 1] rfl
    refine va_calli (va_runV (As := [.int p1, .int (1 : Int32)]) (rest := []) ⟨hx, hb, hml, hown, hts⟩ (c_X7_isLeaderLost l dC dI cI cC cT h0 h1 h2 h3 h4 h5 h6 h7 H.size v_state v_recorded v_padLength v_at v_letter v_hasUnder v_numbersMany p1 (1 : Int32) q25 hq25) (cwV 2 hts gX7_findByBoth_X7_isLeaderLost rfl rfl rfl hv_X7_isLeaderLost ⟨Nat.le_of_ble_eq_true rfl, Nat.le_of_ble_eq_true rfl⟩) ⟨preB_fb, va_recv hK hPc (ci := 7) (q0 := 0) rfl rfl, fun U hU hW => preB_mk hU hW hPc hK hDc hN⟩ rfl rfl hl.1 rfl (lv_room (Nat.le_of_ble_eq_true rfl)) dX7_findByBoth_14 ⟨Nat.zero_le _, Nat.zero_le _⟩) hS (fun q _ h => hFc q h) hFc (fun r_ u_ t H locs ht hvm hw hB hz1 hk1 hS => ?_)
    have hw : r_ = q25 := hw
    have hw := hw.symm
    subst hw
    obtain ⟨hP, hD⟩ := x_join (ws' := [(h0, .inr (7, [.ref h1, .ref h2, .int v_recorded, .ref h3, .ref h4, .ref h5, .int v_padLength, .ref h6, .int v_at, .int v_letter, .int v_hasUnder, .ref h7, .int v_numbersMany])), (h1, .inl (cI, 2628, .inl v_state)), (h6, .inl (cI, 7, .inl v_found))]) hP hD [0, 1] [2] rfl rfl (by decide) (by decide) hk1 hFc ht hB [1, 2, 0] (by decide) rfl
    clear hPc hDc hFc hk1 hB ht hz1 hvm
    refine lv_if_ne (tgt := 24) hx hb dX7_findByBoth_17 (by decide) (fun c26 => ?_) (fun c26 => ?_)
    · replace hd := ite_f c26 hd
      refine lv_iconst (v := 0) hx hb dX7_findByBoth_24 (by decide) ?_
      cases hd
      exact Kq2 _ _ _ hP hD hS (lv_sub hl [1, 2, 0] rfl)
    · replace hd := ite_t c26 hd
      refine lv_iconst (v := 1) hx hb dX7_findByBoth_20 (by decide) ?_
      refine lv_goto (tgt := 25) hx hb dX7_findByBoth_21 (by decide) ?_
      cases hd
      exact Kq2 _ _ _ hP hD hS (lv_sub hl [1, 2, 0] rfl)
def rmX7_loadedBy : Room := { frames := 7, cells := 0, slots := 0, locals := 167 }
theorem hp_X7_loadedBy : yX7_loadedBy.cls ≠ "java/lang/invoke/MethodHandle" ∧ yX7_loadedBy.cls ≠ "java/lang/invoke/VarHandle" ∧ (parseMethodDescriptor yX7_loadedBy.desc).map (fun d => d.parameters.length) = some 1 := by decide +kernel
theorem hv_X7_loadedBy : yX7_loadedBy.cls = RX7 ∧ yX7_loadedBy.cls ≠ "java/lang/invoke/MethodHandle" ∧ yX7_loadedBy.cls ≠ "java/lang/invoke/VarHandle" ∧ (parseMethodDescriptor yX7_loadedBy.desc).map (fun d => d.parameters.length) = some 1 := by decide +kernel
set_option maxHeartbeats 4000000 in
set_option maxRecDepth 100000 in
theorem c_X7_loadedBy (l : Launch) (dC : Nat → ClassId) (dI : Nat → Nat → Nat) (cI cC cT : ClassId) (h0 h1 h2 h3 h4 h5 h6 h7 : Nat) (sz : Nat) (v_state : (Nat → Int32)) (v_recorded : Int32) (v_padLength : Int32) (v_found : (Nat → Int32)) (v_at : Int32) (v_letter : Int32) (v_hasUnder : Int32) (v_numbersMany : Int32) (p1 : Int32) (r : (Int32 × (Nat → Int32))) (hd : den_X7_loadedBy v_state v_found p1 = some r) : Met l yX7_loadedBy wsX7_loadedBy rmX7_loadedBy (va_Pc [.ref h0, .int p1] (preB sz (dC, dI) [(h0, .inr (7, [.ref h1, .ref h2, .int v_recorded, .ref h3, .ref h4, .ref h5, .int v_padLength, .ref h6, .int v_at, .int v_letter, .int v_hasUnder, .ref h7, .int v_numbersMany])), (h1, .inl (cI, 2628, .inl v_state)), (h6, .inl (cI, 7, .inl v_found))] [(cI, .int), (cC, .char), (cT, .object "CassetteTones$Tape")])) (va_Qi (S := Unit) (fun v _ => v = r.1) (fun _ t => posB (dC, dI) [(h0, .inr (7, [.ref h1, .ref h2, .int v_recorded, .ref h3, .ref h4, .ref h5, .int v_padLength, .ref h6, .int v_at, .int v_letter, .int v_hasUnder, .ref h7, .int v_numbersMany])), (h1, .inl (cI, 2628, .inl v_state)), (h6, .inl (cI, 7, .inl r.2))] [(cI, .int), (cC, .char), (cT, .object "CassetteTones$Tape")] (va_A [(h0, .inr (7, [.ref h1, .ref h2, .int v_recorded, .ref h3, .ref h4, .ref h5, .int v_padLength, .ref h6, .int v_at, .int v_letter, .int v_hasUnder, .ref h7, .int v_numbersMany])), (h1, .inl (cI, 2628, .inl v_state)), (h6, .inl (cI, 7, .inl v_found))] sz) t) (va_A [(h0, .inr (7, [.ref h1, .ref h2, .int v_recorded, .ref h3, .ref h4, .ref h5, .int v_padLength, .ref h6, .int v_at, .int v_letter, .int v_hasUnder, .ref h7, .int v_numbersMany])), (h1, .inl (cI, 2628, .inl v_state)), (h6, .inl (cI, 7, .inl v_found))] sz)) 0 0 (va_A [(h0, .inr (7, [.ref h1, .ref h2, .int v_recorded, .ref h3, .ref h4, .ref h5, .int v_padLength, .ref h6, .int v_at, .int v_letter, .int v_hasUnder, .ref h7, .int v_numbersMany])), (h1, .inl (cI, 2628, .inl v_state)), (h6, .inl (cI, 7, .inl v_found))] sz) := by
  refine x_met_i (by decide) rfl (Nat.le_of_ble_eq_true rfl) ?_
  intro p e s m args below meth c A Q H locs ls hx hb hml hown hts hK hN hA hP hD hS hl hend
  have hown : s.vm.findClass RX7 = some m.cls := hown
  have hl : lv_has ls 3 [(0, .ref h0), (1, .int p1)] := hl
  unfold den_X7_loadedBy at hd
  refine lv_iconst (v := 0) hx hb dX7_loadedBy_0 (by decide) ?_
  refine lv_istore_n (lv' := [(2, .int (0 : Int32)), (0, .ref h0), (1, .int p1)]) hx hb dX7_loadedBy_1 rfl hl (by decide) rfl (fun ls hl => ?_)
  have KL7 : ∀ (fu : Nat) (y2_2 : Int32) (hd : den_X7_loadedBy_L2 p1 v_state v_found fu y2_2 = some r) (H : Heap) (locs : List Loc) (ls : Array Slot), va_P (dC, dI) vwCl [(h0, .inr (7, [.ref h1, .ref h2, .int v_recorded, .ref h3, .ref h4, .ref h5, .int v_padLength, .ref h6, .int v_at, .int v_letter, .int v_hasUnder, .ref h7, .int v_numbersMany])), (h1, .inl (cI, 2628, .inl v_state)), (h6, .inl (cI, 7, .inl v_found))] H → va_D A [(h0, .inr (7, [.ref h1, .ref h2, .int v_recorded, .ref h3, .ref h4, .ref h5, .int v_padLength, .ref h6, .int v_at, .int v_letter, .int v_hasUnder, .ref h7, .int v_numbersMany])), (h1, .inl (cI, 2628, .inl v_state)), (h6, .inl (cI, 7, .inl v_found))] → va_S A s.heap H locs → lv_has ls 3 [(0, .ref h0), (1, .int p1), (2, .int y2_2)] → W p l e rmX7_loadedBy s m args below meth c H locs 0 0 Q (F0 m 2 ls []) := by
    intro fu
    induction fu with
    | zero => intro y2_2 hd; exact no_some hd
    | succ fu ih =>
      intro y2_2 hd H locs ls hP hD hS hl
      rw [den_X7_loadedBy_L2] at hd
      refine lv_iload_n hx hb dX7_loadedBy_2 rfl (lv_at hl 2 rfl) ?_
      refine lv_iconst (v := 2) hx hb dX7_loadedBy_3 (by decide) ?_
      refine lv_icmp_ge (tgt := 30) hx hb dX7_loadedBy_4 (by decide) (fun c1 => ?_) (fun c1 => ?_)
      · replace hd := ite_t c1 hd
        refine lv_aload_n hx hb dX7_loadedBy_30 rfl (lv_at hl 0 rfl) ?_
        refine lv_iload_n hx hb dX7_loadedBy_31 rfl (lv_at hl 1 rfl) ?_
        obtain ⟨q2, hq2, hd⟩ := bnd_some hd
        have hPc : va_P (dC, dI) vwCl [(h0, .inr (7, [.ref h1, .ref h2, .int v_recorded, .ref h3, .ref h4, .ref h5, .int v_padLength, .ref h6, .int v_at, .int v_letter, .int v_hasUnder, .ref h7, .int v_numbersMany])), (h1, .inl (cI, 2628, .inl v_state)), (h6, .inl (cI, 7, .inl v_found))] _ := hP.sub [0, 1, 2] rfl
        have hDc := hD.sub (ws' := [(h0, .inr (7, [.ref h1, .ref h2, .int v_recorded, .ref h3, .ref h4, .ref h5, .int v_padLength, .ref h6, .int v_at, .int v_letter, .int v_hasUnder, .ref h7, .int v_numbersMany])), (h1, .inl (cI, 2628, .inl v_state)), (h6, .inl (cI, 7, .inl v_found))]) [0, 1, 2] (by decide) rfl
        have hFc := va_free (wc := [(h0, .inr (7, [.ref h1, .ref h2, .int v_recorded, .ref h3, .ref h4, .ref h5, .int v_padLength, .ref h6, .int v_at, .int v_letter, .int v_hasUnder, .ref h7, .int v_numbersMany])), (h1, .inl (cI, 2628, .inl v_state)), (h6, .inl (cI, 7, .inl v_found))]) hD hS hA [0, 1, 2] rfl
        refine va_calli (va_runV (As := [.int p1]) (rest := []) ⟨hx, hb, hml, hown, hts⟩ (c_X7_findByBoth l dC dI cI cC cT h0 h1 h2 h3 h4 h5 h6 h7 H.size v_state v_recorded v_padLength v_found v_at v_letter v_hasUnder v_numbersMany p1 q2 hq2) (cwV 1 hts gX7_loadedBy_X7_findByBoth rfl rfl rfl hv_X7_findByBoth ⟨Nat.le_of_ble_eq_true rfl, Nat.le_of_ble_eq_true rfl⟩) ⟨preB_fb, va_recv hK hPc (ci := 7) (q0 := 0) rfl rfl, fun U hU hW => preB_mk hU hW hPc hK hDc hN⟩ rfl rfl hl.1 rfl (lv_room (Nat.le_of_ble_eq_true rfl)) dX7_loadedBy_32 ⟨Nat.zero_le _, Nat.zero_le _⟩) hS (fun q _ h => hFc q h) hFc (fun r_ u_ t H locs ht hvm hw hB hz1 hk1 hS => ?_)
        have hw : r_ = q2.1 := hw
        have hw := hw.symm
        subst hw
        obtain ⟨hP, hD⟩ := x_join (ws' := [(h0, .inr (7, [.ref h1, .ref h2, .int v_recorded, .ref h3, .ref h4, .ref h5, .int v_padLength, .ref h6, .int v_at, .int v_letter, .int v_hasUnder, .ref h7, .int v_numbersMany])), (h1, .inl (cI, 2628, .inl v_state)), (h6, .inl (cI, 7, .inl q2.2))]) hP hD [0, 1, 2] [] rfl rfl (by decide) (by decide) hk1 hFc ht hB [0, 1, 2] (by decide) rfl
        clear hPc hDc hFc hk1 hB ht hz1 hvm
        refine lv_if_eq (tgt := 42) hx hb dX7_loadedBy_35 (by decide) (fun c3 => ?_) (fun c3 => ?_)
        · replace hd := ite_t c3 hd
          refine lv_bipush (v := -6) hx hb dX7_loadedBy_42 (by decide) ?_
          cases hd
          exact hend (by rfl) hP hD hS dX7_loadedBy_44
        · replace hd := ite_f c3 hd
          refine lv_iconst (v := 2) hx hb dX7_loadedBy_38 (by decide) ?_
          refine lv_goto (tgt := 44) hx hb dX7_loadedBy_39 (by decide) ?_
          cases hd
          exact hend (by rfl) hP hD hS dX7_loadedBy_44
      · replace hd := ite_f c1 hd
        refine lv_aload_n hx hb dX7_loadedBy_7 rfl (lv_at hl 0 rfl) ?_
        refine lv_iload_n hx hb dX7_loadedBy_8 rfl (lv_at hl 1 rfl) ?_
        refine lv_iload_n hx hb dX7_loadedBy_9 rfl (lv_at hl 2 rfl) ?_
        obtain ⟨q4, hq4, hd⟩ := bnd_some hd
        have hPc : va_P (dC, dI) vwCl [(h0, .inr (7, [.ref h1, .ref h2, .int v_recorded, .ref h3, .ref h4, .ref h5, .int v_padLength, .ref h6, .int v_at, .int v_letter, .int v_hasUnder, .ref h7, .int v_numbersMany])), (h1, .inl (cI, 2628, .inl v_state))] _ := hP.sub [0, 1] rfl
        have hDc := hD.sub (ws' := [(h0, .inr (7, [.ref h1, .ref h2, .int v_recorded, .ref h3, .ref h4, .ref h5, .int v_padLength, .ref h6, .int v_at, .int v_letter, .int v_hasUnder, .ref h7, .int v_numbersMany])), (h1, .inl (cI, 2628, .inl v_state))]) [0, 1] (by decide) rfl
        have hFc := va_free (wc := [(h0, .inr (7, [.ref h1, .ref h2, .int v_recorded, .ref h3, .ref h4, .ref h5, .int v_padLength, .ref h6, .int v_at, .int v_letter, .int v_hasUnder, .ref h7, .int v_numbersMany])), (h1, .inl (cI, 2628, .inl v_state))]) hD hS hA [0, 1] rfl
        refine va_calli (va_runV (As := [.int p1, .int y2_2]) (rest := []) ⟨hx, hb, hml, hown, hts⟩ (c_X7_howIs l dC dI cI cC cT h0 h1 h2 h3 h4 h5 h6 h7 H.size v_state v_recorded v_padLength v_at v_letter v_hasUnder v_numbersMany p1 y2_2 q4 hq4) (cwV 2 hts gX7_loadedBy_X7_howIs rfl rfl rfl hv_X7_howIs ⟨Nat.le_of_ble_eq_true rfl, Nat.le_of_ble_eq_true rfl⟩) ⟨preB_fb, va_recv hK hPc (ci := 7) (q0 := 0) rfl rfl, fun U hU hW => preB_mk hU hW hPc hK hDc hN⟩ rfl rfl hl.1 rfl (lv_room (Nat.le_of_ble_eq_true rfl)) dX7_loadedBy_10 ⟨Nat.zero_le _, Nat.zero_le _⟩) hS (fun q _ h => hFc q h) hFc (fun r_ u_ t H locs ht hvm hw hB hz1 hk1 hS => ?_)
        have hw : r_ = q4 := hw
        have hw := hw.symm
        subst hw
        obtain ⟨hP, hD⟩ := x_join (ws' := [(h0, .inr (7, [.ref h1, .ref h2, .int v_recorded, .ref h3, .ref h4, .ref h5, .int v_padLength, .ref h6, .int v_at, .int v_letter, .int v_hasUnder, .ref h7, .int v_numbersMany])), (h1, .inl (cI, 2628, .inl v_state)), (h6, .inl (cI, 7, .inl v_found))]) hP hD [0, 1] [2] rfl rfl (by decide) (by decide) hk1 hFc ht hB [1, 2, 0] (by decide) rfl
        clear hPc hDc hFc hk1 hB ht hz1 hvm
        refine lv_if_ne (tgt := 24) hx hb dX7_loadedBy_13 (by decide) (fun c5 => ?_) (fun c5 => ?_)
        · replace hd := ite_f c5 hd
          refine lv_iinc (v := (y2_2 + (1 : Int32))) (lv' := [(2, .int (y2_2 + (1 : Int32))), (0, .ref h0), (1, .int p1)]) hx hb dX7_loadedBy_24 hl (k := 2) rfl (by first | rfl | decide) (by decide) rfl (fun ls hl => ?_)
          refine lv_goto (tgt := 2) hx hb dX7_loadedBy_27 (by decide) ?_
          exact ih (y2_2 + (1 : Int32)) hd _ _ _ hP hD hS (lv_sub hl [1, 2, 0] rfl)
        · replace hd := ite_t c5 hd
          refine lv_aload_n hx hb dX7_loadedBy_16 rfl (lv_at hl 0 rfl) ?_
          refine lv_iload_n hx hb dX7_loadedBy_17 rfl (lv_at hl 1 rfl) ?_
          refine lv_iload_n hx hb dX7_loadedBy_18 rfl (lv_at hl 2 rfl) ?_
          obtain ⟨q6, hq6, hd⟩ := bnd_some hd
          have hPc : va_P (dC, dI) vwCl [(h0, .inr (7, [.ref h1, .ref h2, .int v_recorded, .ref h3, .ref h4, .ref h5, .int v_padLength, .ref h6, .int v_at, .int v_letter, .int v_hasUnder, .ref h7, .int v_numbersMany])), (h1, .inl (cI, 2628, .inl v_state)), (h6, .inl (cI, 7, .inl v_found))] _ := hP.sub [0, 1, 2] rfl
          have hDc := hD.sub (ws' := [(h0, .inr (7, [.ref h1, .ref h2, .int v_recorded, .ref h3, .ref h4, .ref h5, .int v_padLength, .ref h6, .int v_at, .int v_letter, .int v_hasUnder, .ref h7, .int v_numbersMany])), (h1, .inl (cI, 2628, .inl v_state)), (h6, .inl (cI, 7, .inl v_found))]) [0, 1, 2] (by decide) rfl
          have hFc := va_free (wc := [(h0, .inr (7, [.ref h1, .ref h2, .int v_recorded, .ref h3, .ref h4, .ref h5, .int v_padLength, .ref h6, .int v_at, .int v_letter, .int v_hasUnder, .ref h7, .int v_numbersMany])), (h1, .inl (cI, 2628, .inl v_state)), (h6, .inl (cI, 7, .inl v_found))]) hD hS hA [0, 1, 2] rfl
          refine va_callv (va_runV (As := [.int p1, .int y2_2]) (rest := []) ⟨hx, hb, hml, hown, hts⟩ (c_X7_findBy l dC dI cI cC cT h0 h1 h2 h3 h4 h5 h6 h7 H.size v_state v_recorded v_padLength v_found v_at v_letter v_hasUnder v_numbersMany p1 y2_2 q6 hq6) (cwV 2 hts gX7_loadedBy_X7_findBy rfl rfl rfl hv_X7_findBy ⟨Nat.le_of_ble_eq_true rfl, Nat.le_of_ble_eq_true rfl⟩) ⟨preB_fb, va_recv hK hPc (ci := 7) (q0 := 0) rfl rfl, fun U hU hW => preB_mk hU hW hPc hK hDc hN⟩ rfl rfl hl.1 rfl (lv_room (Nat.le_of_ble_eq_true rfl)) dX7_loadedBy_19 ⟨Nat.zero_le _, Nat.zero_le _⟩) hS (fun q _ h => hFc q h) hFc (fun u_ t H locs ht hvm hw hB hz1 hk1 hS => ?_)
          obtain ⟨hP, hD⟩ := x_join (ws' := [(h0, .inr (7, [.ref h1, .ref h2, .int v_recorded, .ref h3, .ref h4, .ref h5, .int v_padLength, .ref h6, .int v_at, .int v_letter, .int v_hasUnder, .ref h7, .int v_numbersMany])), (h1, .inl (cI, 2628, .inl v_state)), (h6, .inl (cI, 7, .inl q6))]) hP hD [0, 1, 2] [] rfl rfl (by decide) (by decide) hk1 hFc ht hB [0, 1, 2] (by decide) rfl
          clear hPc hDc hFc hk1 hB ht hz1 hvm
          refine lv_iload_n hx hb dX7_loadedBy_22 rfl (lv_at hl 2 rfl) ?_
          cases hd
          exact hend (by rfl) hP hD hS dX7_loadedBy_23
  exact KL7 FU (0 : Int32) hd _ _ _ hP hD hS (lv_sub hl [1, 2, 0] rfl)
def rmX7_isValue : Room := { frames := 1, cells := 0, slots := 0, locals := 22 }
theorem hp_X7_isValue : yX7_isValue.cls ≠ "java/lang/invoke/MethodHandle" ∧ yX7_isValue.cls ≠ "java/lang/invoke/VarHandle" ∧ (parseMethodDescriptor yX7_isValue.desc).map (fun d => d.parameters.length) = some 2 := by decide +kernel
set_option maxHeartbeats 4000000 in
set_option maxRecDepth 100000 in
theorem c_X7_isValue (l : Launch) (dC : Nat → ClassId) (dI : Nat → Nat → Nat) (cI cC cT : ClassId) (sz : Nat) (p1 : Int32) (p2 : Int32) (r : Int32) (hd : den_X7_isValue p1 p2 = some r) : Met l yX7_isValue wsX7_isValue rmX7_isValue (va_Pc [.int p1, .int p2] (preB sz (dC, dI) [] [(cI, .int), (cC, .char), (cT, .object "CassetteTones$Tape")])) (va_Qi (S := Unit) (fun v _ => v = r) (fun _ t => posB (dC, dI) [] [(cI, .int), (cC, .char), (cT, .object "CassetteTones$Tape")] (va_A [] sz) t) (va_A [] sz)) 0 0 (va_A [] sz) := by
  refine x_met_z (by decide) rfl (Nat.le_of_ble_eq_true rfl) ?_
  intro p e s m args below meth c A Q H locs ls hx hb hml hown hts hK hN hA hP hD hS hl hend
  have hown : s.vm.findClass RX7 = some m.cls := hown
  have hl : lv_has ls 2 [(0, .int p1), (1, .int p2)] := hl
  unfold den_X7_isValue at hd
  refine lv_iload_n hx hb dX7_isValue_0 rfl (lv_at hl 0 rfl) ?_
  obtain ⟨J1, eJ1, hd⟩ := nm_ex hd
  have KJ1 : ∀ (u_ : Unit) (hd : J1 u_ = some r) (H : Heap) (locs : List Loc) (ls : Array Slot), va_P (dC, dI) vwCl [] H → va_D A [] → va_S A s.heap H locs → lv_has ls 2 [(1, .int p2)] → W p l e rmX7_isValue s m args below meth c H locs 0 0 Q (F0 m 9 ls []) := by
    intro u_ hd H locs ls hP hD hS hl
    replace hd := jx1 eJ1 hd
    refine lv_iload_n hx hb dX7_isValue_9 rfl (lv_at hl 0 rfl) ?_
    refine lv_iconst (v := 0) hx hb dX7_isValue_10 (by decide) ?_
    refine lv_bipush (v := 99) hx hb dX7_isValue_11 (by decide) ?_
    obtain ⟨q2, hq2, hd⟩ := bnd_some hd
    have hPc : va_P (dC, dI) vwCl [] _ := hP.sub [] rfl
    have hDc := hD.sub (ws' := []) [] (by decide) rfl
    have hFc := va_free (wc := []) hD hS hA [] rfl
    refine va_calli (va_runS (As := [.int p2, .int (0 : Int32), .int (99 : Int32)]) (rest := []) ⟨hx, hb, hml, hown, hts⟩ (c_X7_within l dC dI cI cC cT H.size p2 (0 : Int32) (99 : Int32) q2 hq2) (va_cwS 3 hts gX7_isValue_X7_within rfl rfl rfl hp_X7_within ⟨Nat.le_of_ble_eq_true rfl, Nat.le_of_ble_eq_true rfl⟩) ⟨preB_fb, fun U hU hW => preB_mk hU hW hPc hK hDc hN⟩ rfl rfl hl.1 rfl (lv_room (Nat.le_of_ble_eq_true rfl)) dX7_isValue_13 ⟨Nat.zero_le _, Nat.zero_le _⟩) hS (fun q _ h => hFc q h) hFc (fun r_ u_ t H locs ht hvm hw hB hz1 hk1 hS => ?_)
    have hw : r_ = q2 := hw
    have hw := hw.symm
    subst hw
    obtain ⟨hP, hD⟩ := x_join (ws' := []) hP hD [] [] rfl rfl (by decide) (by decide) hk1 hFc ht hB [] (by decide) rfl
    clear hPc hDc hFc hk1 hB ht hz1 hvm
    refine lv_goto (tgt := 39) hx hb dX7_isValue_16 (by decide) ?_
    obtain ⟨g3, hd⟩ := gd_some hd
    cases hd
    exact hend (by rfl) (z_nar g3) hP hD hS dX7_isValue_39
  refine lv_if_eq (tgt := 9) hx hb dX7_isValue_1 (by decide) (fun c4 => ?_) (fun c4 => ?_)
  · replace hd := ite_t c4 hd
    exact KJ1 () hd _ _ _ hP hD hS (lv_sub hl [1] rfl)
  · replace hd := ite_f c4 hd
    refine lv_iload_n hx hb dX7_isValue_4 rfl (lv_at hl 0 rfl) ?_
    refine lv_iconst (v := 1) hx hb dX7_isValue_5 (by decide) ?_
    refine lv_icmp_ne (tgt := 19) hx hb dX7_isValue_6 (by decide) (fun c5 => ?_) (fun c5 => ?_)
    · replace hd := ite_f c5 hd
      refine lv_iload_n hx hb dX7_isValue_19 rfl (lv_at hl 0 rfl) ?_
      refine lv_iconst (v := 2) hx hb dX7_isValue_20 (by decide) ?_
      refine lv_icmp_ne (tgt := 38) hx hb dX7_isValue_21 (by decide) (fun c6 => ?_) (fun c6 => ?_)
      · replace hd := ite_f c6 hd
        refine lv_iconst (v := 0) hx hb dX7_isValue_38 (by decide) ?_
        cases hd
        exact hend (by rfl) (by rfl) hP hD hS dX7_isValue_39
      · replace hd := ite_t c6 hd
        refine lv_iload_n hx hb dX7_isValue_24 rfl (lv_at hl 1 rfl) ?_
        refine lv_iconst (v := 0) hx hb dX7_isValue_25 (by decide) ?_
        refine lv_bipush (v := 20) hx hb dX7_isValue_26 (by decide) ?_
        obtain ⟨q7, hq7, hd⟩ := bnd_some hd
        have hPc : va_P (dC, dI) vwCl [] _ := hP.sub [] rfl
        have hDc := hD.sub (ws' := []) [] (by decide) rfl
        have hFc := va_free (wc := []) hD hS hA [] rfl
        refine va_calli (va_runS (As := [.int p2, .int (0 : Int32), .int (20 : Int32)]) (rest := []) ⟨hx, hb, hml, hown, hts⟩ (c_X7_within l dC dI cI cC cT H.size p2 (0 : Int32) (20 : Int32) q7 hq7) (va_cwS 3 hts gX7_isValue_X7_within rfl rfl rfl hp_X7_within ⟨Nat.le_of_ble_eq_true rfl, Nat.le_of_ble_eq_true rfl⟩) ⟨preB_fb, fun U hU hW => preB_mk hU hW hPc hK hDc hN⟩ rfl rfl hl.1 rfl (lv_room (Nat.le_of_ble_eq_true rfl)) dX7_isValue_28 ⟨Nat.zero_le _, Nat.zero_le _⟩) hS (fun q _ h => hFc q h) hFc (fun r_ u_ t H locs ht hvm hw hB hz1 hk1 hS => ?_)
        have hw : r_ = q7 := hw
        have hw := hw.symm
        subst hw
        obtain ⟨hP, hD⟩ := x_join (ws' := []) hP hD [] [] rfl rfl (by decide) (by decide) hk1 hFc ht hB [] (by decide) rfl
        clear hPc hDc hFc hk1 hB ht hz1 hvm
        refine lv_if_eq (tgt := 38) hx hb dX7_isValue_31 (by decide) (fun c8 => ?_) (fun c8 => ?_)
        · replace hd := ite_t c8 hd
          refine lv_iconst (v := 0) hx hb dX7_isValue_38 (by decide) ?_
          cases hd
          exact hend (by rfl) (by rfl) hP hD hS dX7_isValue_39
        · replace hd := ite_f c8 hd
          refine lv_iconst (v := 1) hx hb dX7_isValue_34 (by decide) ?_
          refine lv_goto (tgt := 39) hx hb dX7_isValue_35 (by decide) ?_
          cases hd
          exact hend (by rfl) (by rfl) hP hD hS dX7_isValue_39
    · replace hd := ite_t c5 hd
      exact KJ1 () hd _ _ _ hP hD hS (lv_sub hl [1] rfl)
def rmX7_set : Room := { frames := 2, cells := 0, slots := 0, locals := 45 }
theorem kX7_set_1 : (Cond.fieldLink RX7 7 "CassetteTonesModel" "state" "[I") ∈ wsX7_set := List.mem_of_getElem? (i := 1) (by decide +kernel)
theorem inX7_set_X7 : ∀ w ∈ wsX70, w ∈ wsX7_set := by decide +kernel
theorem hp_X7_set : yX7_set.cls ≠ "java/lang/invoke/MethodHandle" ∧ yX7_set.cls ≠ "java/lang/invoke/VarHandle" ∧ (parseMethodDescriptor yX7_set.desc).map (fun d => d.parameters.length) = some 2 := by decide +kernel
theorem hv_X7_set : yX7_set.cls = RX7 ∧ yX7_set.cls ≠ "java/lang/invoke/MethodHandle" ∧ yX7_set.cls ≠ "java/lang/invoke/VarHandle" ∧ (parseMethodDescriptor yX7_set.desc).map (fun d => d.parameters.length) = some 2 := by decide +kernel
set_option maxHeartbeats 4000000 in
set_option maxRecDepth 100000 in
theorem c_X7_set (l : Launch) (dC : Nat → ClassId) (dI : Nat → Nat → Nat) (cI cC cT : ClassId) (h0 h1 h2 h3 h4 h5 h6 h7 : Nat) (sz : Nat) (v_state : (Nat → Int32)) (v_history : (Nat → Int32)) (v_recorded : Int32) (v_padLength : Int32) (v_at : Int32) (v_letter : Int32) (v_hasUnder : Int32) (v_numbersMany : Int32) (p1 : Int32) (p2 : Int32) (r : (Int32 × (Nat → Int32) × (Nat → Int32) × Int32)) (hd : den_X7_set v_state v_history v_recorded p1 p2 = some r) : Met l yX7_set wsX7_set rmX7_set (va_Pc [.ref h0, .int p1, .int p2] (preB sz (dC, dI) [(h0, .inr (7, [.ref h1, .ref h2, .int v_recorded, .ref h3, .ref h4, .ref h5, .int v_padLength, .ref h6, .int v_at, .int v_letter, .int v_hasUnder, .ref h7, .int v_numbersMany])), (h1, .inl (cI, 2628, .inl v_state)), (h2, .inl (cI, 15768, .inl v_history))] [(cI, .int), (cC, .char), (cT, .object "CassetteTones$Tape")])) (va_Qi (S := Unit) (fun v _ => v = r.1) (fun _ t => posB (dC, dI) [(h0, .inr (7, [.ref h1, .ref h2, .int r.2.2.2, .ref h3, .ref h4, .ref h5, .int v_padLength, .ref h6, .int v_at, .int v_letter, .int v_hasUnder, .ref h7, .int v_numbersMany])), (h1, .inl (cI, 2628, .inl r.2.1)), (h2, .inl (cI, 15768, .inl r.2.2.1))] [(cI, .int), (cC, .char), (cT, .object "CassetteTones$Tape")] (va_A [(h0, .inr (7, [.ref h1, .ref h2, .int v_recorded, .ref h3, .ref h4, .ref h5, .int v_padLength, .ref h6, .int v_at, .int v_letter, .int v_hasUnder, .ref h7, .int v_numbersMany])), (h1, .inl (cI, 2628, .inl v_state)), (h2, .inl (cI, 15768, .inl v_history))] sz) t) (va_A [(h0, .inr (7, [.ref h1, .ref h2, .int v_recorded, .ref h3, .ref h4, .ref h5, .int v_padLength, .ref h6, .int v_at, .int v_letter, .int v_hasUnder, .ref h7, .int v_numbersMany])), (h1, .inl (cI, 2628, .inl v_state)), (h2, .inl (cI, 15768, .inl v_history))] sz)) 0 0 (va_A [(h0, .inr (7, [.ref h1, .ref h2, .int v_recorded, .ref h3, .ref h4, .ref h5, .int v_padLength, .ref h6, .int v_at, .int v_letter, .int v_hasUnder, .ref h7, .int v_numbersMany])), (h1, .inl (cI, 2628, .inl v_state)), (h2, .inl (cI, 15768, .inl v_history))] sz) := by
  refine x_met_i (by decide) rfl (Nat.le_of_ble_eq_true rfl) ?_
  intro p e s m args below meth c A Q H locs ls hx hb hml hown hts hK hN hA hP hD hS hl hend
  have hown : s.vm.findClass RX7 = some m.cls := hown
  have hl : lv_has ls 4 [(0, .ref h0), (1, .int p1), (2, .int p2)] := hl
  unfold den_X7_set at hd
  refine lv_iload_n hx hb dX7_set_0 rfl (lv_at hl 1 rfl) ?_
  refine lv_iload_n hx hb dX7_set_1 rfl (lv_at hl 2 rfl) ?_
  obtain ⟨q1, hq1, hd⟩ := bnd_some hd
  have hPc : va_P (dC, dI) vwCl [] _ := hP.sub [] rfl
  have hDc := hD.sub (ws' := []) [] (by decide) rfl
  have hFc := va_free (wc := []) hD hS hA [] rfl
  refine va_calli (va_runS (As := [.int p1, .int p2]) (rest := []) ⟨hx, hb, hml, hown, hts⟩ (c_X7_isValue l dC dI cI cC cT H.size p1 p2 q1 hq1) (va_cwS 2 hts gX7_set_X7_isValue rfl rfl rfl hp_X7_isValue ⟨Nat.le_of_ble_eq_true rfl, Nat.le_of_ble_eq_true rfl⟩) ⟨preB_fb, fun U hU hW => preB_mk hU hW hPc hK hDc hN⟩ rfl rfl hl.1 rfl (lv_room (Nat.le_of_ble_eq_true rfl)) dX7_set_2 ⟨Nat.zero_le _, Nat.zero_le _⟩) hS (fun q _ h => hFc q h) hFc (fun r_ u_ t H locs ht hvm hw hB hz1 hk1 hS => ?_)
  have hw : r_ = q1 := hw
  have hw := hw.symm
  subst hw
  obtain ⟨hP, hD⟩ := x_join (ws' := [(h0, .inr (7, [.ref h1, .ref h2, .int v_recorded, .ref h3, .ref h4, .ref h5, .int v_padLength, .ref h6, .int v_at, .int v_letter, .int v_hasUnder, .ref h7, .int v_numbersMany])), (h1, .inl (cI, 2628, .inl v_state)), (h2, .inl (cI, 15768, .inl v_history))]) hP hD [] [0, 1, 2] rfl rfl (by decide) (by decide) hk1 hFc ht hB [0, 1, 2] (by decide) rfl
  clear hPc hDc hFc hk1 hB ht hz1 hvm
  refine lv_if_ne (tgt := 11) hx hb dX7_set_5 (by decide) (fun c2 => ?_) (fun c2 => ?_)
  · replace hd := ite_f c2 hd
    refine lv_aload_n hx hb dX7_set_11 rfl (lv_at hl 0 rfl) ?_
    obtain ⟨q3, hq3, hd⟩ := bnd_some hd
    have hPc : va_P (dC, dI) vwCl [(h0, .inr (7, [.ref h1, .ref h2, .int v_recorded, .ref h3, .ref h4, .ref h5, .int v_padLength, .ref h6, .int v_at, .int v_letter, .int v_hasUnder, .ref h7, .int v_numbersMany])), (h1, .inl (cI, 2628, .inl v_state)), (h2, .inl (cI, 15768, .inl v_history))] _ := hP.sub [0, 1, 2] rfl
    have hDc := hD.sub (ws' := [(h0, .inr (7, [.ref h1, .ref h2, .int v_recorded, .ref h3, .ref h4, .ref h5, .int v_padLength, .ref h6, .int v_at, .int v_letter, .int v_hasUnder, .ref h7, .int v_numbersMany])), (h1, .inl (cI, 2628, .inl v_state)), (h2, .inl (cI, 15768, .inl v_history))]) [0, 1, 2] (by decide) rfl
    have hFc := va_free (wc := [(h0, .inr (7, [.ref h1, .ref h2, .int v_recorded, .ref h3, .ref h4, .ref h5, .int v_padLength, .ref h6, .int v_at, .int v_letter, .int v_hasUnder, .ref h7, .int v_numbersMany])), (h1, .inl (cI, 2628, .inl v_state)), (h2, .inl (cI, 15768, .inl v_history))]) hD hS hA [0, 1, 2] rfl
    refine va_callv (va_runV (As := []) (rest := []) ⟨hx, hb, hml, hown, hts⟩ (c_X7_record l dC dI cI cC cT h0 h1 h2 h3 h4 h5 h6 h7 H.size v_state v_history v_recorded v_padLength v_at v_letter v_hasUnder v_numbersMany q3 hq3) (cwV 0 hts gX7_set_X7_record rfl rfl rfl hv_X7_record ⟨Nat.le_of_ble_eq_true rfl, Nat.le_of_ble_eq_true rfl⟩) ⟨preB_fb, va_recv hK hPc (ci := 7) (q0 := 0) rfl rfl, fun U hU hW => preB_mk hU hW hPc hK hDc hN⟩ rfl rfl hl.1 rfl (lv_room (Nat.le_of_ble_eq_true rfl)) dX7_set_12 ⟨Nat.zero_le _, Nat.zero_le _⟩) hS (fun q _ h => hFc q h) hFc (fun u_ t H locs ht hvm hw hB hz1 hk1 hS => ?_)
    obtain ⟨hP, hD⟩ := x_join (ws' := [(h0, .inr (7, [.ref h1, .ref h2, .int q3.2, .ref h3, .ref h4, .ref h5, .int v_padLength, .ref h6, .int v_at, .int v_letter, .int v_hasUnder, .ref h7, .int v_numbersMany])), (h1, .inl (cI, 2628, .inl v_state)), (h2, .inl (cI, 15768, .inl q3.1))]) hP hD [0, 1, 2] [] rfl rfl (by decide) (by decide) hk1 hFc ht hB [0, 1, 2] (by decide) rfl
    clear hPc hDc hFc hk1 hB ht hz1 hvm
    refine lv_aload_n hx hb dX7_set_15 rfl (lv_at hl 0 rfl) ?_
    refine va_get (D := (dC, dI)) (ci := 7) (v := .ref h1) (C := RX7) (T := TX7) (N := 13) hx hb hts inX7_set_X7 hown hK hP 0 rfl rfl 0 (by decide) (hts _ kX7_set_1) (fun _ h9 => h9) rfl dX7_set_16 ?_
    refine lv_iload_n hx hb dX7_set_19 rfl (lv_at hl 1 rfl) ?_
    obtain ⟨g4, hd⟩ := gd_some hd
    refine x_iald (k := p1.toNatClampNeg) hx hb hK hP 1 0 rfl rfl (inb_in g4) rfl dX7_set_20 ?_
    refine lv_istore_n (lv' := [(3, .int (v_state p1.toNatClampNeg)), (0, .ref h0), (1, .int p1), (2, .int p2)]) hx hb dX7_set_21 rfl hl (by decide) rfl (fun ls hl => ?_)
    refine lv_aload_n hx hb dX7_set_22 rfl (lv_at hl 1 rfl) ?_
    refine va_get (D := (dC, dI)) (ci := 7) (v := .ref h1) (C := RX7) (T := TX7) (N := 13) hx hb hts inX7_set_X7 hown hK hP 0 rfl rfl 0 (by decide) (hts _ kX7_set_1) (fun _ h9 => h9) rfl dX7_set_23 ?_
    refine lv_iload_n hx hb dX7_set_26 rfl (lv_at hl 2 rfl) ?_
    refine lv_iload_n hx hb dX7_set_27 rfl (lv_at hl 3 rfl) ?_
    obtain ⟨g5, hd⟩ := gd_some hd
    refine x_iast (k := p1.toNatClampNeg) hx hb hK hP hD hS 1 0 rfl rfl (inb_in g5) rfl dX7_set_28 (fun H locs hP hD hS => ?_)
    have hP : va_P (dC, dI) vwCl [(h0, .inr (7, [.ref h1, .ref h2, .int q3.2, .ref h3, .ref h4, .ref h5, .int v_padLength, .ref h6, .int v_at, .int v_letter, .int v_hasUnder, .ref h7, .int v_numbersMany])), (h1, .inl (cI, 2628, .inl (upd v_state p1.toNatClampNeg p2))), (h2, .inl (cI, 15768, .inl q3.1))] H := hP
    have hD : va_D A [(h0, .inr (7, [.ref h1, .ref h2, .int q3.2, .ref h3, .ref h4, .ref h5, .int v_padLength, .ref h6, .int v_at, .int v_letter, .int v_hasUnder, .ref h7, .int v_numbersMany])), (h1, .inl (cI, 2628, .inl (upd v_state p1.toNatClampNeg p2))), (h2, .inl (cI, 15768, .inl q3.1))] := hD
    refine lv_iload_n hx hb dX7_set_29 rfl (lv_at hl 0 rfl) ?_
    cases hd
    exact hend (by rfl) hP hD hS dX7_set_30
  · replace hd := ite_t c2 hd
    refine lv_bipush (v := -2) hx hb dX7_set_8 (by decide) ?_
    cases hd
    exact hend (by rfl) hP hD hS dX7_set_10
def rmX7_whyNotWritten : Room := { frames := 2, cells := 0, slots := 0, locals := 43 }
theorem kX7_whyNotWritten_1 : (Cond.fieldLink RX7 7 "CassetteTonesModel" "state" "[I") ∈ wsX7_whyNotWritten := List.mem_of_getElem? (i := 1) (by decide +kernel)
theorem inX7_whyNotWritten_X7 : ∀ w ∈ wsX70, w ∈ wsX7_whyNotWritten := by decide +kernel
theorem hp_X7_whyNotWritten : yX7_whyNotWritten.cls ≠ "java/lang/invoke/MethodHandle" ∧ yX7_whyNotWritten.cls ≠ "java/lang/invoke/VarHandle" ∧ (parseMethodDescriptor yX7_whyNotWritten.desc).map (fun d => d.parameters.length) = some 3 := by decide +kernel
theorem hv_X7_whyNotWritten : yX7_whyNotWritten.cls = RX7 ∧ yX7_whyNotWritten.cls ≠ "java/lang/invoke/MethodHandle" ∧ yX7_whyNotWritten.cls ≠ "java/lang/invoke/VarHandle" ∧ (parseMethodDescriptor yX7_whyNotWritten.desc).map (fun d => d.parameters.length) = some 3 := by decide +kernel
set_option maxHeartbeats 4000000 in
set_option maxRecDepth 100000 in
theorem c_X7_whyNotWritten (l : Launch) (dC : Nat → ClassId) (dI : Nat → Nat → Nat) (cI cC cT : ClassId) (h0 h1 h2 h3 h4 h5 h6 h7 : Nat) (sz : Nat) (v_state : (Nat → Int32)) (v_recorded : Int32) (v_padLength : Int32) (v_at : Int32) (v_letter : Int32) (v_hasUnder : Int32) (v_numbersMany : Int32) (p1 : Int32) (p2 : Int32) (p3 : Int32) (r : Int32) (hd : den_X7_whyNotWritten v_state p1 p2 p3 = some r) : Met l yX7_whyNotWritten wsX7_whyNotWritten rmX7_whyNotWritten (va_Pc [.ref h0, .int p1, .int p2, .int p3] (preB sz (dC, dI) [(h0, .inr (7, [.ref h1, .ref h2, .int v_recorded, .ref h3, .ref h4, .ref h5, .int v_padLength, .ref h6, .int v_at, .int v_letter, .int v_hasUnder, .ref h7, .int v_numbersMany])), (h1, .inl (cI, 2628, .inl v_state))] [(cI, .int), (cC, .char), (cT, .object "CassetteTones$Tape")])) (va_Qi (S := Unit) (fun v _ => v = r) (fun _ t => posB (dC, dI) [(h0, .inr (7, [.ref h1, .ref h2, .int v_recorded, .ref h3, .ref h4, .ref h5, .int v_padLength, .ref h6, .int v_at, .int v_letter, .int v_hasUnder, .ref h7, .int v_numbersMany])), (h1, .inl (cI, 2628, .inl v_state))] [(cI, .int), (cC, .char), (cT, .object "CassetteTones$Tape")] (va_A [(h0, .inr (7, [.ref h1, .ref h2, .int v_recorded, .ref h3, .ref h4, .ref h5, .int v_padLength, .ref h6, .int v_at, .int v_letter, .int v_hasUnder, .ref h7, .int v_numbersMany])), (h1, .inl (cI, 2628, .inl v_state))] sz) t) (va_A [(h0, .inr (7, [.ref h1, .ref h2, .int v_recorded, .ref h3, .ref h4, .ref h5, .int v_padLength, .ref h6, .int v_at, .int v_letter, .int v_hasUnder, .ref h7, .int v_numbersMany])), (h1, .inl (cI, 2628, .inl v_state))] sz)) 0 0 (va_A [(h0, .inr (7, [.ref h1, .ref h2, .int v_recorded, .ref h3, .ref h4, .ref h5, .int v_padLength, .ref h6, .int v_at, .int v_letter, .int v_hasUnder, .ref h7, .int v_numbersMany])), (h1, .inl (cI, 2628, .inl v_state))] sz) := by
  refine x_met_i (by decide) rfl (Nat.le_of_ble_eq_true rfl) ?_
  intro p e s m args below meth c A Q H locs ls hx hb hml hown hts hK hN hA hP hD hS hl hend
  have hown : s.vm.findClass RX7 = some m.cls := hown
  have hl : lv_has ls 4 [(0, .ref h0), (1, .int p1), (2, .int p2), (3, .int p3)] := hl
  unfold den_X7_whyNotWritten at hd
  refine lv_aload_n hx hb dX7_whyNotWritten_0 rfl (lv_at hl 0 rfl) ?_
  refine lv_iload_n hx hb dX7_whyNotWritten_1 rfl (lv_at hl 2 rfl) ?_
  obtain ⟨q1, hq1, hd⟩ := bnd_some hd
  have hPc : va_P (dC, dI) vwCl [(h0, .inr (7, [.ref h1, .ref h2, .int v_recorded, .ref h3, .ref h4, .ref h5, .int v_padLength, .ref h6, .int v_at, .int v_letter, .int v_hasUnder, .ref h7, .int v_numbersMany])), (h1, .inl (cI, 2628, .inl v_state))] _ := hP.sub [0, 1] rfl
  have hDc := hD.sub (ws' := [(h0, .inr (7, [.ref h1, .ref h2, .int v_recorded, .ref h3, .ref h4, .ref h5, .int v_padLength, .ref h6, .int v_at, .int v_letter, .int v_hasUnder, .ref h7, .int v_numbersMany])), (h1, .inl (cI, 2628, .inl v_state))]) [0, 1] (by decide) rfl
  have hFc := va_free (wc := [(h0, .inr (7, [.ref h1, .ref h2, .int v_recorded, .ref h3, .ref h4, .ref h5, .int v_padLength, .ref h6, .int v_at, .int v_letter, .int v_hasUnder, .ref h7, .int v_numbersMany])), (h1, .inl (cI, 2628, .inl v_state))]) hD hS hA [0, 1] rfl
  refine va_calli (va_runV (As := [.int p2]) (rest := []) ⟨hx, hb, hml, hown, hts⟩ (c_X7_isBlock l dC dI cI cC cT h0 h1 h2 h3 h4 h5 h6 h7 H.size v_state v_recorded v_padLength v_at v_letter v_hasUnder v_numbersMany p2 q1 hq1) (cwV 1 hts gX7_whyNotWritten_X7_isBlock rfl rfl rfl hv_X7_isBlock ⟨Nat.le_of_ble_eq_true rfl, Nat.le_of_ble_eq_true rfl⟩) ⟨preB_fb, va_recv hK hPc (ci := 7) (q0 := 0) rfl rfl, fun U hU hW => preB_mk hU hW hPc hK hDc hN⟩ rfl rfl hl.1 rfl (lv_room (Nat.le_of_ble_eq_true rfl)) dX7_whyNotWritten_2 ⟨Nat.zero_le _, Nat.zero_le _⟩) hS (fun q _ h => hFc q h) hFc (fun r_ u_ t H locs ht hvm hw hB hz1 hk1 hS => ?_)
  have hw : r_ = q1 := hw
  have hw := hw.symm
  subst hw
  obtain ⟨hP, hD⟩ := x_join (ws' := [(h0, .inr (7, [.ref h1, .ref h2, .int v_recorded, .ref h3, .ref h4, .ref h5, .int v_padLength, .ref h6, .int v_at, .int v_letter, .int v_hasUnder, .ref h7, .int v_numbersMany])), (h1, .inl (cI, 2628, .inl v_state))]) hP hD [0, 1] [] rfl rfl (by decide) (by decide) hk1 hFc ht hB [0, 1] (by decide) rfl
  clear hPc hDc hFc hk1 hB ht hz1 hvm
  obtain ⟨J2, eJ2, hd⟩ := nm_ex hd
  have KJ2 : ∀ (u_ : Unit) (hd : J2 u_ = some r) (H : Heap) (locs : List Loc) (ls : Array Slot), va_P (dC, dI) vwCl [(h0, .inr (7, [.ref h1, .ref h2, .int v_recorded, .ref h3, .ref h4, .ref h5, .int v_padLength, .ref h6, .int v_at, .int v_letter, .int v_hasUnder, .ref h7, .int v_numbersMany])), (h1, .inl (cI, 2628, .inl v_state))] H → va_D A [(h0, .inr (7, [.ref h1, .ref h2, .int v_recorded, .ref h3, .ref h4, .ref h5, .int v_padLength, .ref h6, .int v_at, .int v_letter, .int v_hasUnder, .ref h7, .int v_numbersMany])), (h1, .inl (cI, 2628, .inl v_state))] → va_S A s.heap H locs → lv_has ls 4 [(0, .ref h0), (1, .int p1), (3, .int p3)] → W p l e rmX7_whyNotWritten s m args below meth c H locs 0 0 Q (F0 m 16 ls []) := by
    intro u_ hd H locs ls hP hD hS hl
    replace hd := jx1 eJ2 hd
    refine lv_iload_n hx hb dX7_whyNotWritten_16 rfl (lv_at hl 1 rfl) ?_
    refine lv_iconst (v := 0) hx hb dX7_whyNotWritten_17 (by decide) ?_
    refine lv_bipush (v := 99) hx hb dX7_whyNotWritten_18 (by decide) ?_
    obtain ⟨q3, hq3, hd⟩ := bnd_some hd
    have hPc : va_P (dC, dI) vwCl [] _ := hP.sub [] rfl
    have hDc := hD.sub (ws' := []) [] (by decide) rfl
    have hFc := va_free (wc := []) hD hS hA [] rfl
    refine va_calli (va_runS (As := [.int p1, .int (0 : Int32), .int (99 : Int32)]) (rest := []) ⟨hx, hb, hml, hown, hts⟩ (c_X7_within l dC dI cI cC cT H.size p1 (0 : Int32) (99 : Int32) q3 hq3) (va_cwS 3 hts gX7_whyNotWritten_X7_within rfl rfl rfl hp_X7_within ⟨Nat.le_of_ble_eq_true rfl, Nat.le_of_ble_eq_true rfl⟩) ⟨preB_fb, fun U hU hW => preB_mk hU hW hPc hK hDc hN⟩ rfl rfl hl.1 rfl (lv_room (Nat.le_of_ble_eq_true rfl)) dX7_whyNotWritten_20 ⟨Nat.zero_le _, Nat.zero_le _⟩) hS (fun q _ h => hFc q h) hFc (fun r_ u_ t H locs ht hvm hw hB hz1 hk1 hS => ?_)
    have hw : r_ = q3 := hw
    have hw := hw.symm
    subst hw
    obtain ⟨hP, hD⟩ := x_join (ws' := [(h0, .inr (7, [.ref h1, .ref h2, .int v_recorded, .ref h3, .ref h4, .ref h5, .int v_padLength, .ref h6, .int v_at, .int v_letter, .int v_hasUnder, .ref h7, .int v_numbersMany])), (h1, .inl (cI, 2628, .inl v_state))]) hP hD [] [0, 1] rfl rfl (by decide) (by decide) hk1 hFc ht hB [0, 1] (by decide) rfl
    clear hPc hDc hFc hk1 hB ht hz1 hvm
    refine lv_if_eq (tgt := 36) hx hb dX7_whyNotWritten_23 (by decide) (fun c4 => ?_) (fun c4 => ?_)
    · replace hd := ite_t c4 hd
      refine lv_bipush (v := -2) hx hb dX7_whyNotWritten_36 (by decide) ?_
      cases hd
      exact hend (by rfl) hP hD hS dX7_whyNotWritten_38
    · replace hd := ite_f c4 hd
      refine lv_iload_n hx hb dX7_whyNotWritten_26 rfl (lv_at hl 2 rfl) ?_
      refine lv_iconst (v := 1) hx hb dX7_whyNotWritten_27 (by decide) ?_
      refine lv_bipush (v := 7) hx hb dX7_whyNotWritten_28 (by decide) ?_
      obtain ⟨q5, hq5, hd⟩ := bnd_some hd
      have hPc : va_P (dC, dI) vwCl [] _ := hP.sub [] rfl
      have hDc := hD.sub (ws' := []) [] (by decide) rfl
      have hFc := va_free (wc := []) hD hS hA [] rfl
      refine va_calli (va_runS (As := [.int p3, .int (1 : Int32), .int (7 : Int32)]) (rest := []) ⟨hx, hb, hml, hown, hts⟩ (c_X7_within l dC dI cI cC cT H.size p3 (1 : Int32) (7 : Int32) q5 hq5) (va_cwS 3 hts gX7_whyNotWritten_X7_within rfl rfl rfl hp_X7_within ⟨Nat.le_of_ble_eq_true rfl, Nat.le_of_ble_eq_true rfl⟩) ⟨preB_fb, fun U hU hW => preB_mk hU hW hPc hK hDc hN⟩ rfl rfl hl.1 rfl (lv_room (Nat.le_of_ble_eq_true rfl)) dX7_whyNotWritten_30 ⟨Nat.zero_le _, Nat.zero_le _⟩) hS (fun q _ h => hFc q h) hFc (fun r_ u_ t H locs ht hvm hw hB hz1 hk1 hS => ?_)
      have hw : r_ = q5 := hw
      have hw := hw.symm
      subst hw
      obtain ⟨hP, hD⟩ := x_join (ws' := [(h0, .inr (7, [.ref h1, .ref h2, .int v_recorded, .ref h3, .ref h4, .ref h5, .int v_padLength, .ref h6, .int v_at, .int v_letter, .int v_hasUnder, .ref h7, .int v_numbersMany])), (h1, .inl (cI, 2628, .inl v_state))]) hP hD [] [0, 1] rfl rfl (by decide) (by decide) hk1 hFc ht hB [0, 1] (by decide) rfl
      clear hPc hDc hFc hk1 hB ht hz1 hvm
      refine lv_if_ne (tgt := 39) hx hb dX7_whyNotWritten_33 (by decide) (fun c6 => ?_) (fun c6 => ?_)
      · replace hd := ite_f c6 hd
        refine lv_aload_n hx hb dX7_whyNotWritten_39 rfl (lv_at hl 0 rfl) ?_
        refine va_get (D := (dC, dI)) (ci := 7) (v := .ref h1) (C := RX7) (T := TX7) (N := 13) hx hb hts inX7_whyNotWritten_X7 hown hK hP 0 rfl rfl 0 (by decide) (hts _ kX7_whyNotWritten_1) (fun _ h9 => h9) rfl dX7_whyNotWritten_40 ?_
        refine lv_iconst (v := 3) hx hb dX7_whyNotWritten_43 (by decide) ?_
        refine x_iald (k := 3) hx hb hK hP 1 0 rfl rfl (inb_in (by decide)) rfl dX7_whyNotWritten_44 ?_
        refine lv_bipush (v := 16) hx hb dX7_whyNotWritten_45 (by decide) ?_
        refine lv_icmp_ne (tgt := 55) hx hb dX7_whyNotWritten_47 (by decide) (fun c7 => ?_) (fun c7 => ?_)
        · replace hd := ite_f c7 hd
          refine lv_iconst (v := 0) hx hb dX7_whyNotWritten_55 (by decide) ?_
          cases hd
          exact hend (by rfl) hP hD hS dX7_whyNotWritten_56
        · replace hd := ite_t c7 hd
          refine lv_bipush (v := -4) hx hb dX7_whyNotWritten_50 (by decide) ?_
          refine lv_goto (tgt := 56) hx hb dX7_whyNotWritten_52 (by decide) ?_
          cases hd
          exact hend (by rfl) hP hD hS dX7_whyNotWritten_56
      · replace hd := ite_t c6 hd
        refine lv_bipush (v := -2) hx hb dX7_whyNotWritten_36 (by decide) ?_
        cases hd
        exact hend (by rfl) hP hD hS dX7_whyNotWritten_38
  refine lv_if_ne (tgt := 16) hx hb dX7_whyNotWritten_5 (by decide) (fun c8 => ?_) (fun c8 => ?_)
  · replace hd := ite_f c8 hd
    exact KJ2 () hd _ _ _ hP hD hS (lv_sub hl [0, 1, 3] rfl)
  · replace hd := ite_t c8 hd
    refine lv_iload_n hx hb dX7_whyNotWritten_8 rfl (lv_at hl 2 rfl) ?_
    refine lv_bipush (v := -6) hx hb dX7_whyNotWritten_9 (by decide) ?_
    refine lv_icmp_eq (tgt := 16) hx hb dX7_whyNotWritten_11 (by decide) (fun c9 => ?_) (fun c9 => ?_)
    · replace hd := ite_t c9 hd
      exact KJ2 () hd _ _ _ hP hD hS (lv_sub hl [0, 1, 3] rfl)
    · replace hd := ite_f c9 hd
      refine lv_iconst (v := -1) hx hb dX7_whyNotWritten_14 (by decide) ?_
      cases hd
      exact hend (by rfl) hP hD hS dX7_whyNotWritten_15
def rmX7_writes : Room := { frames := 4, cells := 0, slots := 0, locals := 87 }
theorem kX7_writes_1 : (Cond.fieldLink RX7 7 "CassetteTonesModel" "state" "[I") ∈ wsX7_writes := List.mem_of_getElem? (i := 1) (by decide +kernel)
theorem kX7_writes_2 : (Cond.fieldLink RX7 25 "CassetteTonesModel" "found" "[I") ∈ wsX7_writes := List.mem_of_getElem? (i := 2) (by decide +kernel)
theorem inX7_writes_X7 : ∀ w ∈ wsX70, w ∈ wsX7_writes := by decide +kernel
theorem hp_X7_writes : yX7_writes.cls ≠ "java/lang/invoke/MethodHandle" ∧ yX7_writes.cls ≠ "java/lang/invoke/VarHandle" ∧ (parseMethodDescriptor yX7_writes.desc).map (fun d => d.parameters.length) = some 3 := by decide +kernel
theorem hv_X7_writes : yX7_writes.cls = RX7 ∧ yX7_writes.cls ≠ "java/lang/invoke/MethodHandle" ∧ yX7_writes.cls ≠ "java/lang/invoke/VarHandle" ∧ (parseMethodDescriptor yX7_writes.desc).map (fun d => d.parameters.length) = some 3 := by decide +kernel
set_option maxHeartbeats 4000000 in
set_option maxRecDepth 100000 in
theorem c_X7_writes (l : Launch) (dC : Nat → ClassId) (dI : Nat → Nat → Nat) (cI cC cT : ClassId) (h0 h1 h2 h3 h4 h5 h6 h7 : Nat) (sz : Nat) (v_state : (Nat → Int32)) (v_recorded : Int32) (v_padLength : Int32) (v_found : (Nat → Int32)) (v_at : Int32) (v_letter : Int32) (v_hasUnder : Int32) (v_numbersMany : Int32) (p1 : Int32) (p2 : Int32) (p3 : Int32) (r : (Int32 × (Nat → Int32))) (hd : den_X7_writes v_state v_found p1 p2 p3 = some r) : Met l yX7_writes wsX7_writes rmX7_writes (va_Pc [.ref h0, .int p1, .int p2, .int p3] (preB sz (dC, dI) [(h0, .inr (7, [.ref h1, .ref h2, .int v_recorded, .ref h3, .ref h4, .ref h5, .int v_padLength, .ref h6, .int v_at, .int v_letter, .int v_hasUnder, .ref h7, .int v_numbersMany])), (h1, .inl (cI, 2628, .inl v_state)), (h6, .inl (cI, 7, .inl v_found))] [(cI, .int), (cC, .char), (cT, .object "CassetteTones$Tape")])) (va_Qi (S := Unit) (fun v _ => v = r.1) (fun _ t => posB (dC, dI) [(h0, .inr (7, [.ref h1, .ref h2, .int v_recorded, .ref h3, .ref h4, .ref h5, .int v_padLength, .ref h6, .int v_at, .int v_letter, .int v_hasUnder, .ref h7, .int v_numbersMany])), (h1, .inl (cI, 2628, .inl r.2)), (h6, .inl (cI, 7, .inl v_found))] [(cI, .int), (cC, .char), (cT, .object "CassetteTones$Tape")] (va_A [(h0, .inr (7, [.ref h1, .ref h2, .int v_recorded, .ref h3, .ref h4, .ref h5, .int v_padLength, .ref h6, .int v_at, .int v_letter, .int v_hasUnder, .ref h7, .int v_numbersMany])), (h1, .inl (cI, 2628, .inl v_state)), (h6, .inl (cI, 7, .inl v_found))] sz) t) (va_A [(h0, .inr (7, [.ref h1, .ref h2, .int v_recorded, .ref h3, .ref h4, .ref h5, .int v_padLength, .ref h6, .int v_at, .int v_letter, .int v_hasUnder, .ref h7, .int v_numbersMany])), (h1, .inl (cI, 2628, .inl v_state)), (h6, .inl (cI, 7, .inl v_found))] sz)) 0 0 (va_A [(h0, .inr (7, [.ref h1, .ref h2, .int v_recorded, .ref h3, .ref h4, .ref h5, .int v_padLength, .ref h6, .int v_at, .int v_letter, .int v_hasUnder, .ref h7, .int v_numbersMany])), (h1, .inl (cI, 2628, .inl v_state)), (h6, .inl (cI, 7, .inl v_found))] sz) := by
  refine x_met_i (by decide) rfl (Nat.le_of_ble_eq_true rfl) ?_
  intro p e s m args below meth c A Q H locs ls hx hb hml hown hts hK hN hA hP hD hS hl hend
  have hown : s.vm.findClass RX7 = some m.cls := hown
  have hl : lv_has ls 8 [(0, .ref h0), (1, .int p1), (2, .int p2), (3, .int p3)] := hl
  unfold den_X7_writes at hd
  refine lv_aload_n hx hb dX7_writes_0 rfl (lv_at hl 0 rfl) ?_
  refine va_get (D := (dC, dI)) (ci := 7) (v := .ref h1) (C := RX7) (T := TX7) (N := 13) hx hb hts inX7_writes_X7 hown hK hP 0 rfl rfl 0 (by decide) (hts _ kX7_writes_1) (fun _ h9 => h9) rfl dX7_writes_1 ?_
  refine lv_iconst (v := 3) hx hb dX7_writes_4 (by decide) ?_
  refine x_iald (k := 3) hx hb hK hP 1 0 rfl rfl (inb_in (by decide)) rfl dX7_writes_5 ?_
  refine lv_istore (lv' := [(4, .int (v_state 3)), (0, .ref h0), (1, .int p1), (2, .int p2), (3, .int p3)]) hx hb dX7_writes_6 hl (by decide) rfl (fun ls hl => ?_)
  refine lv_iconst (v := 4) hx hb dX7_writes_8 (by decide) ?_
  refine lv_bipush (v := 10) hx hb dX7_writes_9 (by decide) ?_
  refine lv_iload hx hb dX7_writes_11 (lv_at hl 0 rfl) ?_
  refine lv_imul hx hb dX7_writes_13 ?_
  refine lv_iadd hx hb dX7_writes_14 ?_
  refine lv_topi (fun x1 ex1 => ?_)
  replace hd := nm_some ex1 hd
  refine lv_istore (lv' := [(5, .int x1), (4, .int (v_state 3)), (0, .ref h0), (1, .int p1), (2, .int p2), (3, .int p3)]) hx hb dX7_writes_15 hl (by decide) rfl (fun ls hl => ?_)
  refine lv_aload_n hx hb dX7_writes_17 rfl (lv_at hl 2 rfl) ?_
  refine va_get (D := (dC, dI)) (ci := 7) (v := .ref h1) (C := RX7) (T := TX7) (N := 13) hx hb hts inX7_writes_X7 hown hK hP 0 rfl rfl 0 (by decide) (hts _ kX7_writes_1) (fun _ h9 => h9) rfl dX7_writes_18 ?_
  refine lv_iload hx hb dX7_writes_21 (lv_at hl 0 rfl) ?_
  refine lv_iconst (v := 0) hx hb dX7_writes_23 (by decide) ?_
  refine lv_iadd hx hb dX7_writes_24 ?_
  refine lv_iload_n hx hb dX7_writes_25 rfl (lv_at hl 3 rfl) ?_
  obtain ⟨g2, hd⟩ := gd_some hd
  refine x_iast (k := (x1 + (0 : Int32)).toNatClampNeg) hx hb hK hP hD hS 1 0 rfl rfl (inb_in g2) rfl dX7_writes_26 (fun H locs hP hD hS => ?_)
  have hP : va_P (dC, dI) vwCl [(h0, .inr (7, [.ref h1, .ref h2, .int v_recorded, .ref h3, .ref h4, .ref h5, .int v_padLength, .ref h6, .int v_at, .int v_letter, .int v_hasUnder, .ref h7, .int v_numbersMany])), (h1, .inl (cI, 2628, .inl (upd v_state (x1 + (0 : Int32)).toNatClampNeg p1))), (h6, .inl (cI, 7, .inl v_found))] H := hP
  have hD : va_D A [(h0, .inr (7, [.ref h1, .ref h2, .int v_recorded, .ref h3, .ref h4, .ref h5, .int v_padLength, .ref h6, .int v_at, .int v_letter, .int v_hasUnder, .ref h7, .int v_numbersMany])), (h1, .inl (cI, 2628, .inl (upd v_state (x1 + (0 : Int32)).toNatClampNeg p1))), (h6, .inl (cI, 7, .inl v_found))] := hD
  refine lv_aload_n hx hb dX7_writes_27 rfl (lv_at hl 2 rfl) ?_
  refine va_get (D := (dC, dI)) (ci := 7) (v := .ref h1) (C := RX7) (T := TX7) (N := 13) hx hb hts inX7_writes_X7 hown hK hP 0 rfl rfl 0 (by decide) (hts _ kX7_writes_1) (fun _ h9 => h9) rfl dX7_writes_28 ?_
  refine lv_iload hx hb dX7_writes_31 (lv_at hl 0 rfl) ?_
  refine lv_iconst (v := 1) hx hb dX7_writes_33 (by decide) ?_
  refine lv_iadd hx hb dX7_writes_34 ?_
  refine lv_iload_n hx hb dX7_writes_35 rfl (lv_at hl 4 rfl) ?_
  obtain ⟨g3, hd⟩ := gd_some hd
  refine x_iast (k := (x1 + (1 : Int32)).toNatClampNeg) hx hb hK hP hD hS 1 0 rfl rfl (inb_in g3) rfl dX7_writes_36 (fun H locs hP hD hS => ?_)
  have hP : va_P (dC, dI) vwCl [(h0, .inr (7, [.ref h1, .ref h2, .int v_recorded, .ref h3, .ref h4, .ref h5, .int v_padLength, .ref h6, .int v_at, .int v_letter, .int v_hasUnder, .ref h7, .int v_numbersMany])), (h1, .inl (cI, 2628, .inl (upd (upd v_state (x1 + (0 : Int32)).toNatClampNeg p1) (x1 + (1 : Int32)).toNatClampNeg p2))), (h6, .inl (cI, 7, .inl v_found))] H := hP
  have hD : va_D A [(h0, .inr (7, [.ref h1, .ref h2, .int v_recorded, .ref h3, .ref h4, .ref h5, .int v_padLength, .ref h6, .int v_at, .int v_letter, .int v_hasUnder, .ref h7, .int v_numbersMany])), (h1, .inl (cI, 2628, .inl (upd (upd v_state (x1 + (0 : Int32)).toNatClampNeg p1) (x1 + (1 : Int32)).toNatClampNeg p2))), (h6, .inl (cI, 7, .inl v_found))] := hD
  refine lv_aload_n hx hb dX7_writes_37 rfl (lv_at hl 2 rfl) ?_
  refine va_get (D := (dC, dI)) (ci := 7) (v := .ref h1) (C := RX7) (T := TX7) (N := 13) hx hb hts inX7_writes_X7 hown hK hP 0 rfl rfl 0 (by decide) (hts _ kX7_writes_1) (fun _ h9 => h9) rfl dX7_writes_38 ?_
  refine lv_iload hx hb dX7_writes_41 (lv_at hl 0 rfl) ?_
  refine lv_iconst (v := 2) hx hb dX7_writes_43 (by decide) ?_
  refine lv_iadd hx hb dX7_writes_44 ?_
  refine lv_iload_n hx hb dX7_writes_45 rfl (lv_at hl 5 rfl) ?_
  obtain ⟨g4, hd⟩ := gd_some hd
  refine x_iast (k := (x1 + (2 : Int32)).toNatClampNeg) hx hb hK hP hD hS 1 0 rfl rfl (inb_in g4) rfl dX7_writes_46 (fun H locs hP hD hS => ?_)
  have hP : va_P (dC, dI) vwCl [(h0, .inr (7, [.ref h1, .ref h2, .int v_recorded, .ref h3, .ref h4, .ref h5, .int v_padLength, .ref h6, .int v_at, .int v_letter, .int v_hasUnder, .ref h7, .int v_numbersMany])), (h1, .inl (cI, 2628, .inl (upd (upd (upd v_state (x1 + (0 : Int32)).toNatClampNeg p1) (x1 + (1 : Int32)).toNatClampNeg p2) (x1 + (2 : Int32)).toNatClampNeg p3))), (h6, .inl (cI, 7, .inl v_found))] H := hP
  have hD : va_D A [(h0, .inr (7, [.ref h1, .ref h2, .int v_recorded, .ref h3, .ref h4, .ref h5, .int v_padLength, .ref h6, .int v_at, .int v_letter, .int v_hasUnder, .ref h7, .int v_numbersMany])), (h1, .inl (cI, 2628, .inl (upd (upd (upd v_state (x1 + (0 : Int32)).toNatClampNeg p1) (x1 + (1 : Int32)).toNatClampNeg p2) (x1 + (2 : Int32)).toNatClampNeg p3))), (h6, .inl (cI, 7, .inl v_found))] := hD
  refine lv_iconst (v := 0) hx hb dX7_writes_47 (by decide) ?_
  refine lv_istore (lv' := [(6, .int (0 : Int32)), (5, .int x1), (4, .int (v_state 3)), (0, .ref h0), (1, .int p1), (2, .int p2), (3, .int p3)]) hx hb dX7_writes_48 hl (by decide) rfl (fun ls hl => ?_)
  obtain ⟨q5, hq5, hd⟩ := bnd_some hd
  have Kq5 : ∀ (H : Heap) (locs : List Loc) (ls : Array Slot), va_P (dC, dI) vwCl [(h0, .inr (7, [.ref h1, .ref h2, .int v_recorded, .ref h3, .ref h4, .ref h5, .int v_padLength, .ref h6, .int v_at, .int v_letter, .int v_hasUnder, .ref h7, .int v_numbersMany])), (h1, .inl (cI, 2628, .inl q5)), (h6, .inl (cI, 7, .inl v_found))] H → va_D A [(h0, .inr (7, [.ref h1, .ref h2, .int v_recorded, .ref h3, .ref h4, .ref h5, .int v_padLength, .ref h6, .int v_at, .int v_letter, .int v_hasUnder, .ref h7, .int v_numbersMany])), (h1, .inl (cI, 2628, .inl q5)), (h6, .inl (cI, 7, .inl v_found))] → va_S A s.heap H locs → lv_has ls 8 [(0, .ref h0), (4, .int (v_state 3))] → W p l e rmX7_writes s m args below meth c H locs 0 0 Q (F0 m 92 ls []) := by
    intro H locs ls hP hD hS hl
    refine lv_aload_n hx hb dX7_writes_92 rfl (lv_at hl 0 rfl) ?_
    refine lv_iload hx hb dX7_writes_93 (lv_at hl 1 rfl) ?_
    obtain ⟨q6, hq6, hd⟩ := bnd_some hd
    have hPc : va_P (dC, dI) vwCl [(h0, .inr (7, [.ref h1, .ref h2, .int v_recorded, .ref h3, .ref h4, .ref h5, .int v_padLength, .ref h6, .int v_at, .int v_letter, .int v_hasUnder, .ref h7, .int v_numbersMany])), (h1, .inl (cI, 2628, .inl q5))] _ := hP.sub [0, 1] rfl
    have hDc := hD.sub (ws' := [(h0, .inr (7, [.ref h1, .ref h2, .int v_recorded, .ref h3, .ref h4, .ref h5, .int v_padLength, .ref h6, .int v_at, .int v_letter, .int v_hasUnder, .ref h7, .int v_numbersMany])), (h1, .inl (cI, 2628, .inl q5))]) [0, 1] (by decide) rfl
    have hFc := va_free (wc := [(h0, .inr (7, [.ref h1, .ref h2, .int v_recorded, .ref h3, .ref h4, .ref h5, .int v_padLength, .ref h6, .int v_at, .int v_letter, .int v_hasUnder, .ref h7, .int v_numbersMany])), (h1, .inl (cI, 2628, .inl q5))]) hD hS hA [0, 1] rfl
    refine va_calli (va_runV (As := [.int (v_state 3)]) (rest := []) ⟨hx, hb, hml, hown, hts⟩ (c_X7_firstOf l dC dI cI cC cT h0 h1 h2 h3 h4 h5 h6 h7 H.size q5 v_recorded v_padLength v_at v_letter v_hasUnder v_numbersMany (v_state 3) q6 hq6) (cwV 1 hts gX7_writes_X7_firstOf rfl rfl rfl hv_X7_firstOf ⟨Nat.le_of_ble_eq_true rfl, Nat.le_of_ble_eq_true rfl⟩) ⟨preB_fb, va_recv hK hPc (ci := 7) (q0 := 0) rfl rfl, fun U hU hW => preB_mk hU hW hPc hK hDc hN⟩ rfl rfl hl.1 rfl (lv_room (Nat.le_of_ble_eq_true rfl)) dX7_writes_95 ⟨Nat.zero_le _, Nat.zero_le _⟩) hS (fun q _ h => hFc q h) hFc (fun r_ u_ t H locs ht hvm hw hB hz1 hk1 hS => ?_)
    have hw : r_ = q6 := hw
    have hw := hw.symm
    subst hw
    obtain ⟨hP, hD⟩ := x_join (ws' := [(h0, .inr (7, [.ref h1, .ref h2, .int v_recorded, .ref h3, .ref h4, .ref h5, .int v_padLength, .ref h6, .int v_at, .int v_letter, .int v_hasUnder, .ref h7, .int v_numbersMany])), (h1, .inl (cI, 2628, .inl q5)), (h6, .inl (cI, 7, .inl v_found))]) hP hD [0, 1] [2] rfl rfl (by decide) (by decide) hk1 hFc ht hB [1, 2, 0] (by decide) rfl
    clear hPc hDc hFc hk1 hB ht hz1 hvm
    refine lv_istore (lv' := [(6, .int q6), (0, .ref h0), (4, .int (v_state 3))]) hx hb dX7_writes_98 hl (by decide) rfl (fun ls hl => ?_)
    refine lv_iconst (v := 0) hx hb dX7_writes_100 (by decide) ?_
    refine lv_istore (lv' := [(7, .int (0 : Int32)), (6, .int q6), (0, .ref h0), (4, .int (v_state 3))]) hx hb dX7_writes_101 hl (by decide) rfl (fun ls hl => ?_)
    obtain ⟨q7, hq7, hd⟩ := bnd_some hd
    have Kq7 : ∀ (H : Heap) (locs : List Loc) (ls : Array Slot), va_P (dC, dI) vwCl [(h0, .inr (7, [.ref h1, .ref h2, .int v_recorded, .ref h3, .ref h4, .ref h5, .int v_padLength, .ref h6, .int v_at, .int v_letter, .int v_hasUnder, .ref h7, .int v_numbersMany])), (h1, .inl (cI, 2628, .inl q7)), (h6, .inl (cI, 7, .inl v_found))] H → va_D A [(h0, .inr (7, [.ref h1, .ref h2, .int v_recorded, .ref h3, .ref h4, .ref h5, .int v_padLength, .ref h6, .int v_at, .int v_letter, .int v_hasUnder, .ref h7, .int v_numbersMany])), (h1, .inl (cI, 2628, .inl q7)), (h6, .inl (cI, 7, .inl v_found))] → va_S A s.heap H locs → lv_has ls 8 [(0, .ref h0), (4, .int (v_state 3))] → W p l e rmX7_writes s m args below meth c H locs 0 0 Q (F0 m 140 ls []) := by
      intro H locs ls hP hD hS hl
      refine lv_aload_n hx hb dX7_writes_140 rfl (lv_at hl 0 rfl) ?_
      refine va_get (D := (dC, dI)) (ci := 7) (v := .ref h1) (C := RX7) (T := TX7) (N := 13) hx hb hts inX7_writes_X7 hown hK hP 0 rfl rfl 0 (by decide) (hts _ kX7_writes_1) (fun _ h9 => h9) rfl dX7_writes_141 ?_
      refine lv_iconst (v := 3) hx hb dX7_writes_144 (by decide) ?_
      refine lv_dup2_11 hx hb dX7_writes_145 rfl rfl ?_
      refine x_iald (k := 3) hx hb hK hP 1 0 rfl rfl (inb_in (by decide)) rfl dX7_writes_146 ?_
      refine lv_iconst (v := 1) hx hb dX7_writes_147 (by decide) ?_
      refine lv_iadd hx hb dX7_writes_148 ?_
      refine x_iast (k := 3) hx hb hK hP hD hS 1 0 rfl rfl (inb_in (by decide)) rfl dX7_writes_149 (fun H locs hP hD hS => ?_)
      have hP : va_P (dC, dI) vwCl [(h0, .inr (7, [.ref h1, .ref h2, .int v_recorded, .ref h3, .ref h4, .ref h5, .int v_padLength, .ref h6, .int v_at, .int v_letter, .int v_hasUnder, .ref h7, .int v_numbersMany])), (h1, .inl (cI, 2628, .inl (upd q7 3 ((q7 3) + (1 : Int32))))), (h6, .inl (cI, 7, .inl v_found))] H := hP
      have hD : va_D A [(h0, .inr (7, [.ref h1, .ref h2, .int v_recorded, .ref h3, .ref h4, .ref h5, .int v_padLength, .ref h6, .int v_at, .int v_letter, .int v_hasUnder, .ref h7, .int v_numbersMany])), (h1, .inl (cI, 2628, .inl (upd q7 3 ((q7 3) + (1 : Int32))))), (h6, .inl (cI, 7, .inl v_found))] := hD
      refine lv_iload hx hb dX7_writes_150 (lv_at hl 1 rfl) ?_
      cases hd
      exact hend (by rfl) hP hD hS dX7_writes_152
    clear hd
    have KL11 : ∀ (fu : Nat) (y7_103 : Int32) (v_state_103 : (Nat → Int32)) (hd : den_X7_writes_L103 v_state q6 fu y7_103 v_state_103 = some q7) (H : Heap) (locs : List Loc) (ls : Array Slot), va_P (dC, dI) vwCl [(h0, .inr (7, [.ref h1, .ref h2, .int v_recorded, .ref h3, .ref h4, .ref h5, .int v_padLength, .ref h6, .int v_at, .int v_letter, .int v_hasUnder, .ref h7, .int v_numbersMany])), (h1, .inl (cI, 2628, .inl v_state_103)), (h6, .inl (cI, 7, .inl v_found))] H → va_D A [(h0, .inr (7, [.ref h1, .ref h2, .int v_recorded, .ref h3, .ref h4, .ref h5, .int v_padLength, .ref h6, .int v_at, .int v_letter, .int v_hasUnder, .ref h7, .int v_numbersMany])), (h1, .inl (cI, 2628, .inl v_state_103)), (h6, .inl (cI, 7, .inl v_found))] → va_S A s.heap H locs → lv_has ls 8 [(0, .ref h0), (4, .int (v_state 3)), (6, .int q6), (7, .int y7_103)] → W p l e rmX7_writes s m args below meth c H locs 0 0 Q (F0 m 103 ls []) := by
      intro fu
      induction fu with
      | zero => intro y7_103 v_state_103 hd; exact no_some hd
      | succ fu ih =>
        intro y7_103 v_state_103 hd H locs ls hP hD hS hl
        rw [den_X7_writes_L103] at hd
        refine lv_iload hx hb dX7_writes_103 (lv_at hl 3 rfl) ?_
        refine lv_aload_n hx hb dX7_writes_105 rfl (lv_at hl 0 rfl) ?_
        refine lv_iload hx hb dX7_writes_106 (lv_at hl 1 rfl) ?_
        obtain ⟨q8, hq8, hd⟩ := bnd_some hd
        have hPc : va_P (dC, dI) vwCl [(h0, .inr (7, [.ref h1, .ref h2, .int v_recorded, .ref h3, .ref h4, .ref h5, .int v_padLength, .ref h6, .int v_at, .int v_letter, .int v_hasUnder, .ref h7, .int v_numbersMany])), (h1, .inl (cI, 2628, .inl v_state_103))] _ := hP.sub [0, 1] rfl
        have hDc := hD.sub (ws' := [(h0, .inr (7, [.ref h1, .ref h2, .int v_recorded, .ref h3, .ref h4, .ref h5, .int v_padLength, .ref h6, .int v_at, .int v_letter, .int v_hasUnder, .ref h7, .int v_numbersMany])), (h1, .inl (cI, 2628, .inl v_state_103))]) [0, 1] (by decide) rfl
        have hFc := va_free (wc := [(h0, .inr (7, [.ref h1, .ref h2, .int v_recorded, .ref h3, .ref h4, .ref h5, .int v_padLength, .ref h6, .int v_at, .int v_letter, .int v_hasUnder, .ref h7, .int v_numbersMany])), (h1, .inl (cI, 2628, .inl v_state_103))]) hD hS hA [0, 1] rfl
        refine va_calli (va_runV (As := [.int (v_state 3)]) (rest := [.int y7_103]) ⟨hx, hb, hml, hown, hts⟩ (c_X7_cellsOf l dC dI cI cC cT h0 h1 h2 h3 h4 h5 h6 h7 H.size v_state_103 v_recorded v_padLength v_at v_letter v_hasUnder v_numbersMany (v_state 3) q8 hq8) (cwV 1 hts gX7_writes_X7_cellsOf rfl rfl rfl hv_X7_cellsOf ⟨Nat.le_of_ble_eq_true rfl, Nat.le_of_ble_eq_true rfl⟩) ⟨preB_fb, va_recv hK hPc (ci := 7) (q0 := 0) rfl rfl, fun U hU hW => preB_mk hU hW hPc hK hDc hN⟩ rfl rfl hl.1 rfl (lv_room (Nat.le_of_ble_eq_true rfl)) dX7_writes_108 ⟨Nat.zero_le _, Nat.zero_le _⟩) hS (fun q _ h => hFc q h) hFc (fun r_ u_ t H locs ht hvm hw hB hz1 hk1 hS => ?_)
        have hw : r_ = q8 := hw
        have hw := hw.symm
        subst hw
        obtain ⟨hP, hD⟩ := x_join (ws' := [(h0, .inr (7, [.ref h1, .ref h2, .int v_recorded, .ref h3, .ref h4, .ref h5, .int v_padLength, .ref h6, .int v_at, .int v_letter, .int v_hasUnder, .ref h7, .int v_numbersMany])), (h1, .inl (cI, 2628, .inl v_state_103)), (h6, .inl (cI, 7, .inl v_found))]) hP hD [0, 1] [2] rfl rfl (by decide) (by decide) hk1 hFc ht hB [1, 2, 0] (by decide) rfl
        clear hPc hDc hFc hk1 hB ht hz1 hvm
        refine lv_icmp_ge (tgt := 140) hx hb dX7_writes_111 (by decide) (fun c9 => ?_) (fun c9 => ?_)
        · replace hd := ite_t c9 hd
          cases hd
          exact Kq7 _ _ _ hP hD hS (lv_sub hl [0, 1] rfl)
        · replace hd := ite_f c9 hd
          refine lv_aload_n hx hb dX7_writes_114 rfl (lv_at hl 0 rfl) ?_
          refine va_get (D := (dC, dI)) (ci := 7) (v := .ref h1) (C := RX7) (T := TX7) (N := 13) hx hb hts inX7_writes_X7 hown hK hP 0 rfl rfl 0 (by decide) (hts _ kX7_writes_1) (fun _ h9 => h9) rfl dX7_writes_115 ?_
          refine lv_sipush (v := 164) hx hb dX7_writes_118 (by decide) ?_
          refine lv_iload hx hb dX7_writes_121 (lv_at hl 2 rfl) ?_
          refine lv_iadd hx hb dX7_writes_123 ?_
          refine lv_iload hx hb dX7_writes_124 (lv_at hl 3 rfl) ?_
          refine lv_iadd hx hb dX7_writes_126 ?_
          refine lv_aload_n hx hb dX7_writes_127 rfl (lv_at hl 0 rfl) ?_
          refine va_get (D := (dC, dI)) (ci := 7) (v := .ref h1) (C := RX7) (T := TX7) (N := 13) hx hb hts inX7_writes_X7 hown hK hP 0 rfl rfl 0 (by decide) (hts _ kX7_writes_1) (fun _ h9 => h9) rfl dX7_writes_128 ?_
          refine lv_iconst (v := 0) hx hb dX7_writes_131 (by decide) ?_
          refine x_iald (k := 0) hx hb hK hP 1 0 rfl rfl (inb_in (by decide)) rfl dX7_writes_132 ?_
          obtain ⟨g10, hd⟩ := gd_some hd
          refine x_iast (k := (((164 : Int32) + q6) + y7_103).toNatClampNeg) hx hb hK hP hD hS 1 0 rfl rfl (inb_in g10) rfl dX7_writes_133 (fun H locs hP hD hS => ?_)
          have hP : va_P (dC, dI) vwCl [(h0, .inr (7, [.ref h1, .ref h2, .int v_recorded, .ref h3, .ref h4, .ref h5, .int v_padLength, .ref h6, .int v_at, .int v_letter, .int v_hasUnder, .ref h7, .int v_numbersMany])), (h1, .inl (cI, 2628, .inl (upd v_state_103 (((164 : Int32) + q6) + y7_103).toNatClampNeg (v_state_103 0)))), (h6, .inl (cI, 7, .inl v_found))] H := hP
          have hD : va_D A [(h0, .inr (7, [.ref h1, .ref h2, .int v_recorded, .ref h3, .ref h4, .ref h5, .int v_padLength, .ref h6, .int v_at, .int v_letter, .int v_hasUnder, .ref h7, .int v_numbersMany])), (h1, .inl (cI, 2628, .inl (upd v_state_103 (((164 : Int32) + q6) + y7_103).toNatClampNeg (v_state_103 0)))), (h6, .inl (cI, 7, .inl v_found))] := hD
          refine lv_iinc (v := (y7_103 + (1 : Int32))) (lv' := [(7, .int (y7_103 + (1 : Int32))), (0, .ref h0), (4, .int (v_state 3)), (6, .int q6)]) hx hb dX7_writes_134 hl (k := 3) rfl (by first | rfl | decide) (by decide) rfl (fun ls hl => ?_)
          refine lv_goto (tgt := 103) hx hb dX7_writes_137 (by decide) ?_
          exact ih (y7_103 + (1 : Int32)) (upd v_state_103 (((164 : Int32) + q6) + y7_103).toNatClampNeg (v_state_103 0)) hd _ _ _ hP hD hS (lv_sub hl [1, 2, 3, 0] rfl)
    exact KL11 FU (0 : Int32) q5 hq7 _ _ _ hP hD hS (lv_sub hl [2, 3, 1, 0] rfl)
  clear hd
  have KL17 : ∀ (fu : Nat) (y6_50 : Int32) (v_state_50 : (Nat → Int32)) (hd : den_X7_writes_L50 p3 v_found x1 fu y6_50 v_state_50 = some q5) (H : Heap) (locs : List Loc) (ls : Array Slot), va_P (dC, dI) vwCl [(h0, .inr (7, [.ref h1, .ref h2, .int v_recorded, .ref h3, .ref h4, .ref h5, .int v_padLength, .ref h6, .int v_at, .int v_letter, .int v_hasUnder, .ref h7, .int v_numbersMany])), (h1, .inl (cI, 2628, .inl v_state_50)), (h6, .inl (cI, 7, .inl v_found))] H → va_D A [(h0, .inr (7, [.ref h1, .ref h2, .int v_recorded, .ref h3, .ref h4, .ref h5, .int v_padLength, .ref h6, .int v_at, .int v_letter, .int v_hasUnder, .ref h7, .int v_numbersMany])), (h1, .inl (cI, 2628, .inl v_state_50)), (h6, .inl (cI, 7, .inl v_found))] → va_S A s.heap H locs → lv_has ls 8 [(0, .ref h0), (3, .int p3), (4, .int (v_state 3)), (5, .int x1), (6, .int y6_50)] → W p l e rmX7_writes s m args below meth c H locs 0 0 Q (F0 m 50 ls []) := by
    intro fu
    induction fu with
    | zero => intro y6_50 v_state_50 hd; exact no_some hd
    | succ fu ih =>
      intro y6_50 v_state_50 hd H locs ls hP hD hS hl
      rw [den_X7_writes_L50] at hd
      refine lv_iload hx hb dX7_writes_50 (lv_at hl 4 rfl) ?_
      refine lv_bipush (v := 7) hx hb dX7_writes_52 (by decide) ?_
      refine lv_icmp_ge (tgt := 92) hx hb dX7_writes_54 (by decide) (fun c12 => ?_) (fun c12 => ?_)
      · replace hd := ite_t c12 hd
        cases hd
        exact Kq5 _ _ _ hP hD hS (lv_sub hl [0, 2] rfl)
      · replace hd := ite_f c12 hd
        refine lv_aload_n hx hb dX7_writes_57 rfl (lv_at hl 0 rfl) ?_
        refine va_get (D := (dC, dI)) (ci := 7) (v := .ref h1) (C := RX7) (T := TX7) (N := 13) hx hb hts inX7_writes_X7 hown hK hP 0 rfl rfl 0 (by decide) (hts _ kX7_writes_1) (fun _ h9 => h9) rfl dX7_writes_58 ?_
        refine lv_iload hx hb dX7_writes_61 (lv_at hl 3 rfl) ?_
        refine lv_iconst (v := 3) hx hb dX7_writes_63 (by decide) ?_
        refine lv_iadd hx hb dX7_writes_64 ?_
        refine lv_iload hx hb dX7_writes_65 (lv_at hl 4 rfl) ?_
        refine lv_iadd hx hb dX7_writes_67 ?_
        refine lv_iload hx hb dX7_writes_68 (lv_at hl 4 rfl) ?_
        refine lv_iload_n hx hb dX7_writes_70 rfl (lv_at hl 1 rfl) ?_
        obtain ⟨q13, hq13, hd⟩ := bnd_some hd
        have Kq13 : ∀ (H : Heap) (locs : List Loc) (ls : Array Slot), va_P (dC, dI) vwCl [(h0, .inr (7, [.ref h1, .ref h2, .int v_recorded, .ref h3, .ref h4, .ref h5, .int v_padLength, .ref h6, .int v_at, .int v_letter, .int v_hasUnder, .ref h7, .int v_numbersMany])), (h1, .inl (cI, 2628, .inl v_state_50)), (h6, .inl (cI, 7, .inl v_found))] H → va_D A [(h0, .inr (7, [.ref h1, .ref h2, .int v_recorded, .ref h3, .ref h4, .ref h5, .int v_padLength, .ref h6, .int v_at, .int v_letter, .int v_hasUnder, .ref h7, .int v_numbersMany])), (h1, .inl (cI, 2628, .inl v_state_50)), (h6, .inl (cI, 7, .inl v_found))] → va_S A s.heap H locs → lv_has ls 8 [(0, .ref h0), (3, .int p3), (4, .int (v_state 3)), (5, .int x1), (6, .int y6_50)] → W p l e rmX7_writes s m args below meth c H locs 0 0 Q (F0 m 85 ls [.int q13, .int ((x1 + (3 : Int32)) + y6_50), .ref h1]) := by
          intro H locs ls hP hD hS hl
          obtain ⟨g14, hd⟩ := gd_some hd
          refine x_iast (k := ((x1 + (3 : Int32)) + y6_50).toNatClampNeg) hx hb hK hP hD hS 1 0 rfl rfl (inb_in g14) rfl dX7_writes_85 (fun H locs hP hD hS => ?_)
          have hP : va_P (dC, dI) vwCl [(h0, .inr (7, [.ref h1, .ref h2, .int v_recorded, .ref h3, .ref h4, .ref h5, .int v_padLength, .ref h6, .int v_at, .int v_letter, .int v_hasUnder, .ref h7, .int v_numbersMany])), (h1, .inl (cI, 2628, .inl (upd v_state_50 ((x1 + (3 : Int32)) + y6_50).toNatClampNeg q13))), (h6, .inl (cI, 7, .inl v_found))] H := hP
          have hD : va_D A [(h0, .inr (7, [.ref h1, .ref h2, .int v_recorded, .ref h3, .ref h4, .ref h5, .int v_padLength, .ref h6, .int v_at, .int v_letter, .int v_hasUnder, .ref h7, .int v_numbersMany])), (h1, .inl (cI, 2628, .inl (upd v_state_50 ((x1 + (3 : Int32)) + y6_50).toNatClampNeg q13))), (h6, .inl (cI, 7, .inl v_found))] := hD
          refine lv_iinc (v := (y6_50 + (1 : Int32))) (lv' := [(6, .int (y6_50 + (1 : Int32))), (0, .ref h0), (3, .int p3), (4, .int (v_state 3)), (5, .int x1)]) hx hb dX7_writes_86 hl (k := 4) rfl (by first | rfl | decide) (by decide) rfl (fun ls hl => ?_)
          refine lv_goto (tgt := 50) hx hb dX7_writes_89 (by decide) ?_
          exact ih (y6_50 + (1 : Int32)) (upd v_state_50 ((x1 + (3 : Int32)) + y6_50).toNatClampNeg q13) hd _ _ _ hP hD hS (lv_sub hl [1, 2, 3, 4, 0] rfl)
        replace hd := hq13
        clear hq13
        refine lv_icmp_ge (tgt := 84) hx hb dX7_writes_71 (by decide) (fun c15 => ?_) (fun c15 => ?_)
        · replace hd := ite_t c15 hd
          refine lv_iconst (v := 0) hx hb dX7_writes_84 (by decide) ?_
          cases hd
          exact Kq13 _ _ _ hP hD hS (lv_sub hl [0, 1, 2, 3, 4] rfl)
        · replace hd := ite_f c15 hd
          refine lv_aload_n hx hb dX7_writes_74 rfl (lv_at hl 0 rfl) ?_
          refine va_get (D := (dC, dI)) (ci := 7) (v := .ref h6) (C := RX7) (T := TX7) (N := 13) hx hb hts inX7_writes_X7 hown hK hP 0 rfl rfl 7 (by decide) (hts _ kX7_writes_2) (fun _ h9 => h9) rfl dX7_writes_75 ?_
          refine lv_iload hx hb dX7_writes_78 (lv_at hl 4 rfl) ?_
          obtain ⟨g16, hd⟩ := gd_some hd
          refine x_iald (k := y6_50.toNatClampNeg) hx hb hK hP 2 0 rfl rfl (inb_in g16) rfl dX7_writes_80 ?_
          refine lv_goto (tgt := 85) hx hb dX7_writes_81 (by decide) ?_
          cases hd
          exact Kq13 _ _ _ hP hD hS (lv_sub hl [0, 1, 2, 3, 4] rfl)
  exact KL17 FU (0 : Int32) (upd (upd (upd v_state (x1 + (0 : Int32)).toNatClampNeg p1) (x1 + (1 : Int32)).toNatClampNeg p2) (x1 + (2 : Int32)).toNatClampNeg p3) hq5 _ _ _ hP hD hS (lv_sub hl [3, 6, 2, 1, 0] rfl)
def rmX7_write : Room := { frames := 5, cells := 0, slots := 0, locals := 114 }
theorem kX7_write_1 : (Cond.fieldLink RX7 25 "CassetteTonesModel" "found" "[I") ∈ wsX7_write := List.mem_of_getElem? (i := 1) (by decide +kernel)
theorem kX7_write_2 : (Cond.constantLong RX7 113 (255)) ∈ wsX7_write := List.mem_of_getElem? (i := 2) (by decide +kernel)
theorem inX7_write_X7 : ∀ w ∈ wsX70, w ∈ wsX7_write := by decide +kernel
theorem hp_X7_write : yX7_write.cls ≠ "java/lang/invoke/MethodHandle" ∧ yX7_write.cls ≠ "java/lang/invoke/VarHandle" ∧ (parseMethodDescriptor yX7_write.desc).map (fun d => d.parameters.length) = some 4 := by decide +kernel
theorem hv_X7_write : yX7_write.cls = RX7 ∧ yX7_write.cls ≠ "java/lang/invoke/MethodHandle" ∧ yX7_write.cls ≠ "java/lang/invoke/VarHandle" ∧ (parseMethodDescriptor yX7_write.desc).map (fun d => d.parameters.length) = some 4 := by decide +kernel
set_option maxHeartbeats 4000000 in
set_option maxRecDepth 100000 in
theorem c_X7_write (l : Launch) (dC : Nat → ClassId) (dI : Nat → Nat → Nat) (cI cC cT : ClassId) (h0 h1 h2 h3 h4 h5 h6 h7 : Nat) (sz : Nat) (v_state : (Nat → Int32)) (v_history : (Nat → Int32)) (v_recorded : Int32) (v_padLength : Int32) (v_found : (Nat → Int32)) (v_at : Int32) (v_letter : Int32) (v_hasUnder : Int32) (v_numbersMany : Int32) (p1 : Int32) (p2 : Int32) (p3 : Int32) (p4 : Int64) (r : (Int32 × (Nat → Int32) × (Nat → Int32) × Int32 × (Nat → Int32))) (hd : den_X7_write v_state v_history v_recorded v_found p1 p2 p3 p4 = some r) : Met l yX7_write wsX7_write rmX7_write (va_Pc [.ref h0, .int p1, .int p2, .int p3, .long p4] (preB sz (dC, dI) [(h0, .inr (7, [.ref h1, .ref h2, .int v_recorded, .ref h3, .ref h4, .ref h5, .int v_padLength, .ref h6, .int v_at, .int v_letter, .int v_hasUnder, .ref h7, .int v_numbersMany])), (h1, .inl (cI, 2628, .inl v_state)), (h2, .inl (cI, 15768, .inl v_history)), (h6, .inl (cI, 7, .inl v_found))] [(cI, .int), (cC, .char), (cT, .object "CassetteTones$Tape")])) (va_Qi (S := Unit) (fun v _ => v = r.1) (fun _ t => posB (dC, dI) [(h0, .inr (7, [.ref h1, .ref h2, .int r.2.2.2.1, .ref h3, .ref h4, .ref h5, .int v_padLength, .ref h6, .int v_at, .int v_letter, .int v_hasUnder, .ref h7, .int v_numbersMany])), (h1, .inl (cI, 2628, .inl r.2.1)), (h2, .inl (cI, 15768, .inl r.2.2.1)), (h6, .inl (cI, 7, .inl r.2.2.2.2))] [(cI, .int), (cC, .char), (cT, .object "CassetteTones$Tape")] (va_A [(h0, .inr (7, [.ref h1, .ref h2, .int v_recorded, .ref h3, .ref h4, .ref h5, .int v_padLength, .ref h6, .int v_at, .int v_letter, .int v_hasUnder, .ref h7, .int v_numbersMany])), (h1, .inl (cI, 2628, .inl v_state)), (h2, .inl (cI, 15768, .inl v_history)), (h6, .inl (cI, 7, .inl v_found))] sz) t) (va_A [(h0, .inr (7, [.ref h1, .ref h2, .int v_recorded, .ref h3, .ref h4, .ref h5, .int v_padLength, .ref h6, .int v_at, .int v_letter, .int v_hasUnder, .ref h7, .int v_numbersMany])), (h1, .inl (cI, 2628, .inl v_state)), (h2, .inl (cI, 15768, .inl v_history)), (h6, .inl (cI, 7, .inl v_found))] sz)) 0 0 (va_A [(h0, .inr (7, [.ref h1, .ref h2, .int v_recorded, .ref h3, .ref h4, .ref h5, .int v_padLength, .ref h6, .int v_at, .int v_letter, .int v_hasUnder, .ref h7, .int v_numbersMany])), (h1, .inl (cI, 2628, .inl v_state)), (h2, .inl (cI, 15768, .inl v_history)), (h6, .inl (cI, 7, .inl v_found))] sz) := by
  refine x_met_i (by decide) rfl (Nat.le_of_ble_eq_true rfl) ?_
  intro p e s m args below meth c A Q H locs ls hx hb hml hown hts hK hN hA hP hD hS hl hend
  have hown : s.vm.findClass RX7 = some m.cls := hown
  have hl : lv_has ls 8 [(0, .ref h0), (1, .int p1), (2, .int p2), (3, .int p3), (4, .long p4)] := hl
  unfold den_X7_write at hd
  refine lv_aload_n hx hb dX7_write_0 rfl (lv_at hl 0 rfl) ?_
  refine lv_iload_n hx hb dX7_write_1 rfl (lv_at hl 1 rfl) ?_
  refine lv_iload_n hx hb dX7_write_2 rfl (lv_at hl 2 rfl) ?_
  refine lv_iload_n hx hb dX7_write_3 rfl (lv_at hl 3 rfl) ?_
  obtain ⟨q1, hq1, hd⟩ := bnd_some hd
  have hPc : va_P (dC, dI) vwCl [(h0, .inr (7, [.ref h1, .ref h2, .int v_recorded, .ref h3, .ref h4, .ref h5, .int v_padLength, .ref h6, .int v_at, .int v_letter, .int v_hasUnder, .ref h7, .int v_numbersMany])), (h1, .inl (cI, 2628, .inl v_state))] _ := hP.sub [0, 1] rfl
  have hDc := hD.sub (ws' := [(h0, .inr (7, [.ref h1, .ref h2, .int v_recorded, .ref h3, .ref h4, .ref h5, .int v_padLength, .ref h6, .int v_at, .int v_letter, .int v_hasUnder, .ref h7, .int v_numbersMany])), (h1, .inl (cI, 2628, .inl v_state))]) [0, 1] (by decide) rfl
  have hFc := va_free (wc := [(h0, .inr (7, [.ref h1, .ref h2, .int v_recorded, .ref h3, .ref h4, .ref h5, .int v_padLength, .ref h6, .int v_at, .int v_letter, .int v_hasUnder, .ref h7, .int v_numbersMany])), (h1, .inl (cI, 2628, .inl v_state))]) hD hS hA [0, 1] rfl
  refine va_calli (va_runV (As := [.int p1, .int p2, .int p3]) (rest := []) ⟨hx, hb, hml, hown, hts⟩ (c_X7_whyNotWritten l dC dI cI cC cT h0 h1 h2 h3 h4 h5 h6 h7 H.size v_state v_recorded v_padLength v_at v_letter v_hasUnder v_numbersMany p1 p2 p3 q1 hq1) (cwV 3 hts gX7_write_X7_whyNotWritten rfl rfl rfl hv_X7_whyNotWritten ⟨Nat.le_of_ble_eq_true rfl, Nat.le_of_ble_eq_true rfl⟩) ⟨preB_fb, va_recv hK hPc (ci := 7) (q0 := 0) rfl rfl, fun U hU hW => preB_mk hU hW hPc hK hDc hN⟩ rfl rfl hl.1 rfl (lv_room (Nat.le_of_ble_eq_true rfl)) dX7_write_4 ⟨Nat.zero_le _, Nat.zero_le _⟩) hS (fun q _ h => hFc q h) hFc (fun r_ u_ t H locs ht hvm hw hB hz1 hk1 hS => ?_)
  have hw : r_ = q1 := hw
  have hw := hw.symm
  subst hw
  obtain ⟨hP, hD⟩ := x_join (ws' := [(h0, .inr (7, [.ref h1, .ref h2, .int v_recorded, .ref h3, .ref h4, .ref h5, .int v_padLength, .ref h6, .int v_at, .int v_letter, .int v_hasUnder, .ref h7, .int v_numbersMany])), (h1, .inl (cI, 2628, .inl v_state)), (h2, .inl (cI, 15768, .inl v_history)), (h6, .inl (cI, 7, .inl v_found))]) hP hD [0, 1] [2, 3] rfl rfl (by decide) (by decide) hk1 hFc ht hB [2, 3, 0, 1] (by decide) rfl
  clear hPc hDc hFc hk1 hB ht hz1 hvm
  refine lv_istore (lv' := [(6, .int q1), (0, .ref h0), (1, .int p1), (2, .int p2), (3, .int p3), (4, .long p4)]) hx hb dX7_write_7 hl (by decide) rfl (fun ls hl => ?_)
  refine lv_iload hx hb dX7_write_9 (lv_at hl 0 rfl) ?_
  refine lv_if_ge (tgt := 17) hx hb dX7_write_11 (by decide) (fun c2 => ?_) (fun c2 => ?_)
  · replace hd := ite_t c2 hd
    refine lv_aload_n hx hb dX7_write_17 rfl (lv_at hl 1 rfl) ?_
    obtain ⟨q3, hq3, hd⟩ := bnd_some hd
    have hPc : va_P (dC, dI) vwCl [(h0, .inr (7, [.ref h1, .ref h2, .int v_recorded, .ref h3, .ref h4, .ref h5, .int v_padLength, .ref h6, .int v_at, .int v_letter, .int v_hasUnder, .ref h7, .int v_numbersMany])), (h1, .inl (cI, 2628, .inl v_state)), (h2, .inl (cI, 15768, .inl v_history))] _ := hP.sub [0, 1, 2] rfl
    have hDc := hD.sub (ws' := [(h0, .inr (7, [.ref h1, .ref h2, .int v_recorded, .ref h3, .ref h4, .ref h5, .int v_padLength, .ref h6, .int v_at, .int v_letter, .int v_hasUnder, .ref h7, .int v_numbersMany])), (h1, .inl (cI, 2628, .inl v_state)), (h2, .inl (cI, 15768, .inl v_history))]) [0, 1, 2] (by decide) rfl
    have hFc := va_free (wc := [(h0, .inr (7, [.ref h1, .ref h2, .int v_recorded, .ref h3, .ref h4, .ref h5, .int v_padLength, .ref h6, .int v_at, .int v_letter, .int v_hasUnder, .ref h7, .int v_numbersMany])), (h1, .inl (cI, 2628, .inl v_state)), (h2, .inl (cI, 15768, .inl v_history))]) hD hS hA [0, 1, 2] rfl
    refine va_callv (va_runV (As := []) (rest := []) ⟨hx, hb, hml, hown, hts⟩ (c_X7_record l dC dI cI cC cT h0 h1 h2 h3 h4 h5 h6 h7 H.size v_state v_history v_recorded v_padLength v_at v_letter v_hasUnder v_numbersMany q3 hq3) (cwV 0 hts gX7_write_X7_record rfl rfl rfl hv_X7_record ⟨Nat.le_of_ble_eq_true rfl, Nat.le_of_ble_eq_true rfl⟩) ⟨preB_fb, va_recv hK hPc (ci := 7) (q0 := 0) rfl rfl, fun U hU hW => preB_mk hU hW hPc hK hDc hN⟩ rfl rfl hl.1 rfl (lv_room (Nat.le_of_ble_eq_true rfl)) dX7_write_18 ⟨Nat.zero_le _, Nat.zero_le _⟩) hS (fun q _ h => hFc q h) hFc (fun u_ t H locs ht hvm hw hB hz1 hk1 hS => ?_)
    obtain ⟨hP, hD⟩ := x_join (ws' := [(h0, .inr (7, [.ref h1, .ref h2, .int q3.2, .ref h3, .ref h4, .ref h5, .int v_padLength, .ref h6, .int v_at, .int v_letter, .int v_hasUnder, .ref h7, .int v_numbersMany])), (h1, .inl (cI, 2628, .inl v_state)), (h2, .inl (cI, 15768, .inl q3.1)), (h6, .inl (cI, 7, .inl v_found))]) hP hD [0, 1, 2] [3] rfl rfl (by decide) (by decide) hk1 hFc ht hB [1, 2, 3, 0] (by decide) rfl
    clear hPc hDc hFc hk1 hB ht hz1 hvm
    refine lv_iconst (v := 0) hx hb dX7_write_21 (by decide) ?_
    refine lv_istore (lv' := [(7, .int (0 : Int32)), (6, .int q1), (0, .ref h0), (1, .int p1), (2, .int p2), (3, .int p3), (4, .long p4)]) hx hb dX7_write_22 hl (by decide) rfl (fun ls hl => ?_)
    obtain ⟨q4, hq4, hd⟩ := bnd_some hd
    have Kq4 : ∀ (H : Heap) (locs : List Loc) (ls : Array Slot), va_P (dC, dI) vwCl [(h0, .inr (7, [.ref h1, .ref h2, .int q3.2, .ref h3, .ref h4, .ref h5, .int v_padLength, .ref h6, .int v_at, .int v_letter, .int v_hasUnder, .ref h7, .int v_numbersMany])), (h1, .inl (cI, 2628, .inl v_state)), (h2, .inl (cI, 15768, .inl q3.1)), (h6, .inl (cI, 7, .inl q4))] H → va_D A [(h0, .inr (7, [.ref h1, .ref h2, .int q3.2, .ref h3, .ref h4, .ref h5, .int v_padLength, .ref h6, .int v_at, .int v_letter, .int v_hasUnder, .ref h7, .int v_numbersMany])), (h1, .inl (cI, 2628, .inl v_state)), (h2, .inl (cI, 15768, .inl q3.1)), (h6, .inl (cI, 7, .inl q4))] → va_S A s.heap H locs → lv_has ls 8 [(0, .ref h0), (1, .int p1), (2, .int p2), (3, .int p3)] → W p l e rmX7_write s m args below meth c H locs 0 0 Q (F0 m 56 ls []) := by
      intro H locs ls hP hD hS hl
      refine lv_aload_n hx hb dX7_write_56 rfl (lv_at hl 0 rfl) ?_
      refine lv_iload_n hx hb dX7_write_57 rfl (lv_at hl 1 rfl) ?_
      refine lv_iload_n hx hb dX7_write_58 rfl (lv_at hl 2 rfl) ?_
      refine lv_iload_n hx hb dX7_write_59 rfl (lv_at hl 3 rfl) ?_
      obtain ⟨q5, hq5, hd⟩ := bnd_some hd
      have hPc : va_P (dC, dI) vwCl [(h0, .inr (7, [.ref h1, .ref h2, .int q3.2, .ref h3, .ref h4, .ref h5, .int v_padLength, .ref h6, .int v_at, .int v_letter, .int v_hasUnder, .ref h7, .int v_numbersMany])), (h1, .inl (cI, 2628, .inl v_state)), (h6, .inl (cI, 7, .inl q4))] _ := hP.sub [0, 1, 3] rfl
      have hDc := hD.sub (ws' := [(h0, .inr (7, [.ref h1, .ref h2, .int q3.2, .ref h3, .ref h4, .ref h5, .int v_padLength, .ref h6, .int v_at, .int v_letter, .int v_hasUnder, .ref h7, .int v_numbersMany])), (h1, .inl (cI, 2628, .inl v_state)), (h6, .inl (cI, 7, .inl q4))]) [0, 1, 3] (by decide) rfl
      have hFc := va_free (wc := [(h0, .inr (7, [.ref h1, .ref h2, .int q3.2, .ref h3, .ref h4, .ref h5, .int v_padLength, .ref h6, .int v_at, .int v_letter, .int v_hasUnder, .ref h7, .int v_numbersMany])), (h1, .inl (cI, 2628, .inl v_state)), (h6, .inl (cI, 7, .inl q4))]) hD hS hA [0, 1, 3] rfl
      refine va_calli (va_runV (As := [.int p1, .int p2, .int p3]) (rest := []) ⟨hx, hb, hml, hown, hts⟩ (c_X7_writes l dC dI cI cC cT h0 h1 h2 h3 h4 h5 h6 h7 H.size v_state q3.2 v_padLength q4 v_at v_letter v_hasUnder v_numbersMany p1 p2 p3 q5 hq5) (cwV 3 hts gX7_write_X7_writes rfl rfl rfl hv_X7_writes ⟨Nat.le_of_ble_eq_true rfl, Nat.le_of_ble_eq_true rfl⟩) ⟨preB_fb, va_recv hK hPc (ci := 7) (q0 := 0) rfl rfl, fun U hU hW => preB_mk hU hW hPc hK hDc hN⟩ rfl rfl hl.1 rfl (lv_room (Nat.le_of_ble_eq_true rfl)) dX7_write_60 ⟨Nat.zero_le _, Nat.zero_le _⟩) hS (fun q _ h => hFc q h) hFc (fun r_ u_ t H locs ht hvm hw hB hz1 hk1 hS => ?_)
      have hw : r_ = q5.1 := hw
      have hw := hw.symm
      subst hw
      obtain ⟨hP, hD⟩ := x_join (ws' := [(h0, .inr (7, [.ref h1, .ref h2, .int q3.2, .ref h3, .ref h4, .ref h5, .int v_padLength, .ref h6, .int v_at, .int v_letter, .int v_hasUnder, .ref h7, .int v_numbersMany])), (h1, .inl (cI, 2628, .inl q5.2)), (h2, .inl (cI, 15768, .inl q3.1)), (h6, .inl (cI, 7, .inl q4))]) hP hD [0, 1, 3] [2] rfl rfl (by decide) (by decide) hk1 hFc ht hB [1, 2, 0, 3] (by decide) rfl
      clear hPc hDc hFc hk1 hB ht hz1 hvm
      cases hd
      exact hend (by rfl) hP hD hS dX7_write_63
    clear hd
    have KL8 : ∀ (fu : Nat) (y7_24 : Int32) (v_found_24 : (Nat → Int32)) (hd : den_X7_write_L24 p3 p4 fu y7_24 v_found_24 = some q4) (H : Heap) (locs : List Loc) (ls : Array Slot), va_P (dC, dI) vwCl [(h0, .inr (7, [.ref h1, .ref h2, .int q3.2, .ref h3, .ref h4, .ref h5, .int v_padLength, .ref h6, .int v_at, .int v_letter, .int v_hasUnder, .ref h7, .int v_numbersMany])), (h1, .inl (cI, 2628, .inl v_state)), (h2, .inl (cI, 15768, .inl q3.1)), (h6, .inl (cI, 7, .inl v_found_24))] H → va_D A [(h0, .inr (7, [.ref h1, .ref h2, .int q3.2, .ref h3, .ref h4, .ref h5, .int v_padLength, .ref h6, .int v_at, .int v_letter, .int v_hasUnder, .ref h7, .int v_numbersMany])), (h1, .inl (cI, 2628, .inl v_state)), (h2, .inl (cI, 15768, .inl q3.1)), (h6, .inl (cI, 7, .inl v_found_24))] → va_S A s.heap H locs → lv_has ls 8 [(0, .ref h0), (1, .int p1), (2, .int p2), (3, .int p3), (4, .long p4), (7, .int y7_24)] → W p l e rmX7_write s m args below meth c H locs 0 0 Q (F0 m 24 ls []) := by
      intro fu
      induction fu with
      | zero => intro y7_24 v_found_24 hd; exact no_some hd
      | succ fu ih =>
        intro y7_24 v_found_24 hd H locs ls hP hD hS hl
        rw [den_X7_write_L24] at hd
        refine lv_iload hx hb dX7_write_24 (lv_at hl 5 rfl) ?_
        refine lv_iload_n hx hb dX7_write_26 rfl (lv_at hl 3 rfl) ?_
        refine lv_icmp_ge (tgt := 56) hx hb dX7_write_27 (by decide) (fun c6 => ?_) (fun c6 => ?_)
        · replace hd := ite_t c6 hd
          cases hd
          exact Kq4 _ _ _ hP hD hS (lv_sub hl [0, 1, 2, 3] rfl)
        · replace hd := ite_f c6 hd
          refine lv_aload_n hx hb dX7_write_30 rfl (lv_at hl 0 rfl) ?_
          refine va_get (D := (dC, dI)) (ci := 7) (v := .ref h6) (C := RX7) (T := TX7) (N := 13) hx hb hts inX7_write_X7 hown hK hP 0 rfl rfl 7 (by decide) (hts _ kX7_write_1) (fun _ h9 => h9) rfl dX7_write_31 ?_
          refine lv_iload hx hb dX7_write_34 (lv_at hl 5 rfl) ?_
          refine lv_lload hx hb dX7_write_36 (lv_at hl 4 rfl) ?_
          refine lv_bipush (v := 8) hx hb dX7_write_38 (by decide) ?_
          refine lv_iload hx hb dX7_write_40 (lv_at hl 5 rfl) ?_
          refine lv_imul hx hb dX7_write_42 ?_
          refine lv_lshr (v := (p4 >>> ((((8 : Int32) * y7_24)).toInt64 &&& 63))) hx hb dX7_write_43 rfl ?_
          refine lv_ldc2 (v := 255) hx hb hown (hts _ kX7_write_2) dX7_write_44 ?_
          refine lv_land hx hb dX7_write_47 ?_
          refine lv_l2i (v := (((p4 >>> ((((8 : Int32) * y7_24)).toInt64 &&& 63)) &&& (255 : Int64))).toInt32) hx hb dX7_write_48 rfl ?_
          obtain ⟨g7, hd⟩ := gd_some hd
          refine x_iast (k := y7_24.toNatClampNeg) hx hb hK hP hD hS 3 0 rfl rfl (inb_in g7) rfl dX7_write_49 (fun H locs hP hD hS => ?_)
          have hP : va_P (dC, dI) vwCl [(h0, .inr (7, [.ref h1, .ref h2, .int q3.2, .ref h3, .ref h4, .ref h5, .int v_padLength, .ref h6, .int v_at, .int v_letter, .int v_hasUnder, .ref h7, .int v_numbersMany])), (h1, .inl (cI, 2628, .inl v_state)), (h2, .inl (cI, 15768, .inl q3.1)), (h6, .inl (cI, 7, .inl (upd v_found_24 y7_24.toNatClampNeg ((((p4 >>> ((((8 : Int32) * y7_24)).toInt64 &&& 63)) &&& (255 : Int64))).toInt32))))] H := hP
          have hD : va_D A [(h0, .inr (7, [.ref h1, .ref h2, .int q3.2, .ref h3, .ref h4, .ref h5, .int v_padLength, .ref h6, .int v_at, .int v_letter, .int v_hasUnder, .ref h7, .int v_numbersMany])), (h1, .inl (cI, 2628, .inl v_state)), (h2, .inl (cI, 15768, .inl q3.1)), (h6, .inl (cI, 7, .inl (upd v_found_24 y7_24.toNatClampNeg ((((p4 >>> ((((8 : Int32) * y7_24)).toInt64 &&& 63)) &&& (255 : Int64))).toInt32))))] := hD
          refine lv_iinc (v := (y7_24 + (1 : Int32))) (lv' := [(7, .int (y7_24 + (1 : Int32))), (0, .ref h0), (1, .int p1), (2, .int p2), (3, .int p3), (4, .long p4)]) hx hb dX7_write_50 hl (k := 5) rfl (by first | rfl | decide) (by decide) rfl (fun ls hl => ?_)
          refine lv_goto (tgt := 24) hx hb dX7_write_53 (by decide) ?_
          exact ih (y7_24 + (1 : Int32)) (upd v_found_24 y7_24.toNatClampNeg ((((p4 >>> ((((8 : Int32) * y7_24)).toInt64 &&& 63)) &&& (255 : Int64))).toInt32)) hd _ _ _ hP hD hS (lv_sub hl [1, 2, 3, 4, 5, 0] rfl)
    exact KL8 FU (0 : Int32) v_found hq4 _ _ _ hP hD hS (lv_sub hl [2, 3, 4, 5, 6, 0] rfl)
  · replace hd := ite_f c2 hd
    refine lv_iload hx hb dX7_write_14 (lv_at hl 0 rfl) ?_
    cases hd
    exact hend (by rfl) hP hD hS dX7_write_16
def rmX7_wipeLast : Room := { frames := 2, cells := 0, slots := 0, locals := 45 }
theorem kX7_wipeLast_1 : (Cond.fieldLink RX7 7 "CassetteTonesModel" "state" "[I") ∈ wsX7_wipeLast := List.mem_of_getElem? (i := 1) (by decide +kernel)
theorem inX7_wipeLast_X7 : ∀ w ∈ wsX70, w ∈ wsX7_wipeLast := by decide +kernel
theorem hp_X7_wipeLast : yX7_wipeLast.cls ≠ "java/lang/invoke/MethodHandle" ∧ yX7_wipeLast.cls ≠ "java/lang/invoke/VarHandle" ∧ (parseMethodDescriptor yX7_wipeLast.desc).map (fun d => d.parameters.length) = some 0 := by decide +kernel
theorem hv_X7_wipeLast : yX7_wipeLast.cls = RX7 ∧ yX7_wipeLast.cls ≠ "java/lang/invoke/MethodHandle" ∧ yX7_wipeLast.cls ≠ "java/lang/invoke/VarHandle" ∧ (parseMethodDescriptor yX7_wipeLast.desc).map (fun d => d.parameters.length) = some 0 := by decide +kernel
set_option maxHeartbeats 4000000 in
set_option maxRecDepth 100000 in
theorem c_X7_wipeLast (l : Launch) (dC : Nat → ClassId) (dI : Nat → Nat → Nat) (cI cC cT : ClassId) (h0 h1 h2 h3 h4 h5 h6 h7 : Nat) (sz : Nat) (v_state : (Nat → Int32)) (v_history : (Nat → Int32)) (v_recorded : Int32) (v_padLength : Int32) (v_at : Int32) (v_letter : Int32) (v_hasUnder : Int32) (v_numbersMany : Int32) (r : (Int32 × (Nat → Int32) × (Nat → Int32) × Int32)) (hd : den_X7_wipeLast v_state v_history v_recorded = some r) : Met l yX7_wipeLast wsX7_wipeLast rmX7_wipeLast (va_Pc [.ref h0] (preB sz (dC, dI) [(h0, .inr (7, [.ref h1, .ref h2, .int v_recorded, .ref h3, .ref h4, .ref h5, .int v_padLength, .ref h6, .int v_at, .int v_letter, .int v_hasUnder, .ref h7, .int v_numbersMany])), (h1, .inl (cI, 2628, .inl v_state)), (h2, .inl (cI, 15768, .inl v_history))] [(cI, .int), (cC, .char), (cT, .object "CassetteTones$Tape")])) (va_Qi (S := Unit) (fun v _ => v = r.1) (fun _ t => posB (dC, dI) [(h0, .inr (7, [.ref h1, .ref h2, .int r.2.2.2, .ref h3, .ref h4, .ref h5, .int v_padLength, .ref h6, .int v_at, .int v_letter, .int v_hasUnder, .ref h7, .int v_numbersMany])), (h1, .inl (cI, 2628, .inl r.2.1)), (h2, .inl (cI, 15768, .inl r.2.2.1))] [(cI, .int), (cC, .char), (cT, .object "CassetteTones$Tape")] (va_A [(h0, .inr (7, [.ref h1, .ref h2, .int v_recorded, .ref h3, .ref h4, .ref h5, .int v_padLength, .ref h6, .int v_at, .int v_letter, .int v_hasUnder, .ref h7, .int v_numbersMany])), (h1, .inl (cI, 2628, .inl v_state)), (h2, .inl (cI, 15768, .inl v_history))] sz) t) (va_A [(h0, .inr (7, [.ref h1, .ref h2, .int v_recorded, .ref h3, .ref h4, .ref h5, .int v_padLength, .ref h6, .int v_at, .int v_letter, .int v_hasUnder, .ref h7, .int v_numbersMany])), (h1, .inl (cI, 2628, .inl v_state)), (h2, .inl (cI, 15768, .inl v_history))] sz)) 0 0 (va_A [(h0, .inr (7, [.ref h1, .ref h2, .int v_recorded, .ref h3, .ref h4, .ref h5, .int v_padLength, .ref h6, .int v_at, .int v_letter, .int v_hasUnder, .ref h7, .int v_numbersMany])), (h1, .inl (cI, 2628, .inl v_state)), (h2, .inl (cI, 15768, .inl v_history))] sz) := by
  refine x_met_i (by decide) rfl (Nat.le_of_ble_eq_true rfl) ?_
  intro p e s m args below meth c A Q H locs ls hx hb hml hown hts hK hN hA hP hD hS hl hend
  have hown : s.vm.findClass RX7 = some m.cls := hown
  have hl : lv_has ls 1 [(0, .ref h0)] := hl
  unfold den_X7_wipeLast at hd
  refine lv_aload_n hx hb dX7_wipeLast_0 rfl (lv_at hl 0 rfl) ?_
  refine va_get (D := (dC, dI)) (ci := 7) (v := .ref h1) (C := RX7) (T := TX7) (N := 13) hx hb hts inX7_wipeLast_X7 hown hK hP 0 rfl rfl 0 (by decide) (hts _ kX7_wipeLast_1) (fun _ h9 => h9) rfl dX7_wipeLast_1 ?_
  refine lv_iconst (v := 3) hx hb dX7_wipeLast_4 (by decide) ?_
  refine x_iald (k := 3) hx hb hK hP 1 0 rfl rfl (inb_in (by decide)) rfl dX7_wipeLast_5 ?_
  refine lv_if_ne (tgt := 12) hx hb dX7_wipeLast_6 (by decide) (fun c1 => ?_) (fun c1 => ?_)
  · replace hd := ite_f c1 hd
    refine lv_aload_n hx hb dX7_wipeLast_12 rfl (lv_at hl 0 rfl) ?_
    obtain ⟨q2, hq2, hd⟩ := bnd_some hd
    have hPc : va_P (dC, dI) vwCl [(h0, .inr (7, [.ref h1, .ref h2, .int v_recorded, .ref h3, .ref h4, .ref h5, .int v_padLength, .ref h6, .int v_at, .int v_letter, .int v_hasUnder, .ref h7, .int v_numbersMany])), (h1, .inl (cI, 2628, .inl v_state)), (h2, .inl (cI, 15768, .inl v_history))] _ := hP.sub [0, 1, 2] rfl
    have hDc := hD.sub (ws' := [(h0, .inr (7, [.ref h1, .ref h2, .int v_recorded, .ref h3, .ref h4, .ref h5, .int v_padLength, .ref h6, .int v_at, .int v_letter, .int v_hasUnder, .ref h7, .int v_numbersMany])), (h1, .inl (cI, 2628, .inl v_state)), (h2, .inl (cI, 15768, .inl v_history))]) [0, 1, 2] (by decide) rfl
    have hFc := va_free (wc := [(h0, .inr (7, [.ref h1, .ref h2, .int v_recorded, .ref h3, .ref h4, .ref h5, .int v_padLength, .ref h6, .int v_at, .int v_letter, .int v_hasUnder, .ref h7, .int v_numbersMany])), (h1, .inl (cI, 2628, .inl v_state)), (h2, .inl (cI, 15768, .inl v_history))]) hD hS hA [0, 1, 2] rfl
    refine va_callv (va_runV (As := []) (rest := []) ⟨hx, hb, hml, hown, hts⟩ (c_X7_record l dC dI cI cC cT h0 h1 h2 h3 h4 h5 h6 h7 H.size v_state v_history v_recorded v_padLength v_at v_letter v_hasUnder v_numbersMany q2 hq2) (cwV 0 hts gX7_wipeLast_X7_record rfl rfl rfl hv_X7_record ⟨Nat.le_of_ble_eq_true rfl, Nat.le_of_ble_eq_true rfl⟩) ⟨preB_fb, va_recv hK hPc (ci := 7) (q0 := 0) rfl rfl, fun U hU hW => preB_mk hU hW hPc hK hDc hN⟩ rfl rfl hl.1 rfl (lv_room (Nat.le_of_ble_eq_true rfl)) dX7_wipeLast_13 ⟨Nat.zero_le _, Nat.zero_le _⟩) hS (fun q _ h => hFc q h) hFc (fun u_ t H locs ht hvm hw hB hz1 hk1 hS => ?_)
    obtain ⟨hP, hD⟩ := x_join (ws' := [(h0, .inr (7, [.ref h1, .ref h2, .int q2.2, .ref h3, .ref h4, .ref h5, .int v_padLength, .ref h6, .int v_at, .int v_letter, .int v_hasUnder, .ref h7, .int v_numbersMany])), (h1, .inl (cI, 2628, .inl v_state)), (h2, .inl (cI, 15768, .inl q2.1))]) hP hD [0, 1, 2] [] rfl rfl (by decide) (by decide) hk1 hFc ht hB [0, 1, 2] (by decide) rfl
    clear hPc hDc hFc hk1 hB ht hz1 hvm
    refine lv_aload_n hx hb dX7_wipeLast_16 rfl (lv_at hl 0 rfl) ?_
    refine va_get (D := (dC, dI)) (ci := 7) (v := .ref h1) (C := RX7) (T := TX7) (N := 13) hx hb hts inX7_wipeLast_X7 hown hK hP 0 rfl rfl 0 (by decide) (hts _ kX7_wipeLast_1) (fun _ h9 => h9) rfl dX7_wipeLast_17 ?_
    refine lv_iconst (v := 3) hx hb dX7_wipeLast_20 (by decide) ?_
    refine lv_dup2_11 hx hb dX7_wipeLast_21 rfl rfl ?_
    refine x_iald (k := 3) hx hb hK hP 1 0 rfl rfl (inb_in (by decide)) rfl dX7_wipeLast_22 ?_
    refine lv_iconst (v := 1) hx hb dX7_wipeLast_23 (by decide) ?_
    refine lv_isub hx hb dX7_wipeLast_24 ?_
    refine x_iast (k := 3) hx hb hK hP hD hS 1 0 rfl rfl (inb_in (by decide)) rfl dX7_wipeLast_25 (fun H locs hP hD hS => ?_)
    have hP : va_P (dC, dI) vwCl [(h0, .inr (7, [.ref h1, .ref h2, .int q2.2, .ref h3, .ref h4, .ref h5, .int v_padLength, .ref h6, .int v_at, .int v_letter, .int v_hasUnder, .ref h7, .int v_numbersMany])), (h1, .inl (cI, 2628, .inl (upd v_state 3 ((v_state 3) - (1 : Int32))))), (h2, .inl (cI, 15768, .inl q2.1))] H := hP
    have hD : va_D A [(h0, .inr (7, [.ref h1, .ref h2, .int q2.2, .ref h3, .ref h4, .ref h5, .int v_padLength, .ref h6, .int v_at, .int v_letter, .int v_hasUnder, .ref h7, .int v_numbersMany])), (h1, .inl (cI, 2628, .inl (upd v_state 3 ((v_state 3) - (1 : Int32))))), (h2, .inl (cI, 15768, .inl q2.1))] := hD
    refine lv_aload_n hx hb dX7_wipeLast_26 rfl (lv_at hl 0 rfl) ?_
    refine va_get (D := (dC, dI)) (ci := 7) (v := .ref h1) (C := RX7) (T := TX7) (N := 13) hx hb hts inX7_wipeLast_X7 hown hK hP 0 rfl rfl 0 (by decide) (hts _ kX7_wipeLast_1) (fun _ h9 => h9) rfl dX7_wipeLast_27 ?_
    refine lv_iconst (v := 3) hx hb dX7_wipeLast_30 (by decide) ?_
    refine x_iald (k := 3) hx hb hK hP 1 0 rfl rfl (inb_in (by decide)) rfl dX7_wipeLast_31 ?_
    cases hd
    exact hend (by rfl) hP hD hS dX7_wipeLast_32
  · replace hd := ite_t c1 hd
    refine lv_bipush (v := -5) hx hb dX7_wipeLast_9 (by decide) ?_
    cases hd
    exact hend (by rfl) hP hD hS dX7_wipeLast_11
def rmX7_whyNotFaded : Room := { frames := 6, cells := 0, slots := 0, locals := 128 }
theorem hp_X7_whyNotFaded : yX7_whyNotFaded.cls ≠ "java/lang/invoke/MethodHandle" ∧ yX7_whyNotFaded.cls ≠ "java/lang/invoke/VarHandle" ∧ (parseMethodDescriptor yX7_whyNotFaded.desc).map (fun d => d.parameters.length) = some 3 := by decide +kernel
theorem hv_X7_whyNotFaded : yX7_whyNotFaded.cls = RX7 ∧ yX7_whyNotFaded.cls ≠ "java/lang/invoke/MethodHandle" ∧ yX7_whyNotFaded.cls ≠ "java/lang/invoke/VarHandle" ∧ (parseMethodDescriptor yX7_whyNotFaded.desc).map (fun d => d.parameters.length) = some 3 := by decide +kernel
set_option maxHeartbeats 4000000 in
set_option maxRecDepth 100000 in
theorem c_X7_whyNotFaded (l : Launch) (dC : Nat → ClassId) (dI : Nat → Nat → Nat) (cI cC cT : ClassId) (h0 h1 h2 h3 h4 h5 h6 h7 : Nat) (sz : Nat) (v_state : (Nat → Int32)) (v_recorded : Int32) (v_padLength : Int32) (v_at : Int32) (v_letter : Int32) (v_hasUnder : Int32) (v_numbersMany : Int32) (p1 : Int32) (p2 : Int32) (p3 : Int32) (r : Int32) (hd : den_X7_whyNotFaded v_state p1 p2 p3 = some r) : Met l yX7_whyNotFaded wsX7_whyNotFaded rmX7_whyNotFaded (va_Pc [.ref h0, .int p1, .int p2, .int p3] (preB sz (dC, dI) [(h0, .inr (7, [.ref h1, .ref h2, .int v_recorded, .ref h3, .ref h4, .ref h5, .int v_padLength, .ref h6, .int v_at, .int v_letter, .int v_hasUnder, .ref h7, .int v_numbersMany])), (h1, .inl (cI, 2628, .inl v_state))] [(cI, .int), (cC, .char), (cT, .object "CassetteTones$Tape")])) (va_Qi (S := Unit) (fun v _ => v = r) (fun _ t => posB (dC, dI) [(h0, .inr (7, [.ref h1, .ref h2, .int v_recorded, .ref h3, .ref h4, .ref h5, .int v_padLength, .ref h6, .int v_at, .int v_letter, .int v_hasUnder, .ref h7, .int v_numbersMany])), (h1, .inl (cI, 2628, .inl v_state))] [(cI, .int), (cC, .char), (cT, .object "CassetteTones$Tape")] (va_A [(h0, .inr (7, [.ref h1, .ref h2, .int v_recorded, .ref h3, .ref h4, .ref h5, .int v_padLength, .ref h6, .int v_at, .int v_letter, .int v_hasUnder, .ref h7, .int v_numbersMany])), (h1, .inl (cI, 2628, .inl v_state))] sz) t) (va_A [(h0, .inr (7, [.ref h1, .ref h2, .int v_recorded, .ref h3, .ref h4, .ref h5, .int v_padLength, .ref h6, .int v_at, .int v_letter, .int v_hasUnder, .ref h7, .int v_numbersMany])), (h1, .inl (cI, 2628, .inl v_state))] sz)) 0 0 (va_A [(h0, .inr (7, [.ref h1, .ref h2, .int v_recorded, .ref h3, .ref h4, .ref h5, .int v_padLength, .ref h6, .int v_at, .int v_letter, .int v_hasUnder, .ref h7, .int v_numbersMany])), (h1, .inl (cI, 2628, .inl v_state))] sz) := by
  refine x_met_i (by decide) rfl (Nat.le_of_ble_eq_true rfl) ?_
  intro p e s m args below meth c A Q H locs ls hx hb hml hown hts hK hN hA hP hD hS hl hend
  have hown : s.vm.findClass RX7 = some m.cls := hown
  have hl : lv_has ls 4 [(0, .ref h0), (1, .int p1), (2, .int p2), (3, .int p3)] := hl
  unfold den_X7_whyNotFaded at hd
  refine lv_aload_n hx hb dX7_whyNotFaded_0 rfl (lv_at hl 0 rfl) ?_
  refine lv_iload_n hx hb dX7_whyNotFaded_1 rfl (lv_at hl 1 rfl) ?_
  obtain ⟨q1, hq1, hd⟩ := bnd_some hd
  have hPc : va_P (dC, dI) vwCl [(h0, .inr (7, [.ref h1, .ref h2, .int v_recorded, .ref h3, .ref h4, .ref h5, .int v_padLength, .ref h6, .int v_at, .int v_letter, .int v_hasUnder, .ref h7, .int v_numbersMany])), (h1, .inl (cI, 2628, .inl v_state))] _ := hP.sub [0, 1] rfl
  have hDc := hD.sub (ws' := [(h0, .inr (7, [.ref h1, .ref h2, .int v_recorded, .ref h3, .ref h4, .ref h5, .int v_padLength, .ref h6, .int v_at, .int v_letter, .int v_hasUnder, .ref h7, .int v_numbersMany])), (h1, .inl (cI, 2628, .inl v_state))]) [0, 1] (by decide) rfl
  have hFc := va_free (wc := [(h0, .inr (7, [.ref h1, .ref h2, .int v_recorded, .ref h3, .ref h4, .ref h5, .int v_padLength, .ref h6, .int v_at, .int v_letter, .int v_hasUnder, .ref h7, .int v_numbersMany])), (h1, .inl (cI, 2628, .inl v_state))]) hD hS hA [0, 1] rfl
  refine va_calli (va_runV (As := [.int p1]) (rest := []) ⟨hx, hb, hml, hown, hts⟩ (c_X7_isCell l dC dI cI cC cT h0 h1 h2 h3 h4 h5 h6 h7 H.size v_state v_recorded v_padLength v_at v_letter v_hasUnder v_numbersMany p1 q1 hq1) (cwV 1 hts gX7_whyNotFaded_X7_isCell rfl rfl rfl hv_X7_isCell ⟨Nat.le_of_ble_eq_true rfl, Nat.le_of_ble_eq_true rfl⟩) ⟨preB_fb, va_recv hK hPc (ci := 7) (q0 := 0) rfl rfl, fun U hU hW => preB_mk hU hW hPc hK hDc hN⟩ rfl rfl hl.1 rfl (lv_room (Nat.le_of_ble_eq_true rfl)) dX7_whyNotFaded_2 ⟨Nat.zero_le _, Nat.zero_le _⟩) hS (fun q _ h => hFc q h) hFc (fun r_ u_ t H locs ht hvm hw hB hz1 hk1 hS => ?_)
  have hw : r_ = q1 := hw
  have hw := hw.symm
  subst hw
  obtain ⟨hP, hD⟩ := x_join (ws' := [(h0, .inr (7, [.ref h1, .ref h2, .int v_recorded, .ref h3, .ref h4, .ref h5, .int v_padLength, .ref h6, .int v_at, .int v_letter, .int v_hasUnder, .ref h7, .int v_numbersMany])), (h1, .inl (cI, 2628, .inl v_state))]) hP hD [0, 1] [] rfl rfl (by decide) (by decide) hk1 hFc ht hB [0, 1] (by decide) rfl
  clear hPc hDc hFc hk1 hB ht hz1 hvm
  refine lv_if_eq (tgt := 16) hx hb dX7_whyNotFaded_5 (by decide) (fun c2 => ?_) (fun c2 => ?_)
  · replace hd := ite_t c2 hd
    refine lv_iconst (v := -1) hx hb dX7_whyNotFaded_16 (by decide) ?_
    cases hd
    exact hend (by rfl) hP hD hS dX7_whyNotFaded_17
  · replace hd := ite_f c2 hd
    refine lv_aload_n hx hb dX7_whyNotFaded_8 rfl (lv_at hl 0 rfl) ?_
    refine lv_iload_n hx hb dX7_whyNotFaded_9 rfl (lv_at hl 2 rfl) ?_
    obtain ⟨q3, hq3, hd⟩ := bnd_some hd
    have hPc : va_P (dC, dI) vwCl [(h0, .inr (7, [.ref h1, .ref h2, .int v_recorded, .ref h3, .ref h4, .ref h5, .int v_padLength, .ref h6, .int v_at, .int v_letter, .int v_hasUnder, .ref h7, .int v_numbersMany])), (h1, .inl (cI, 2628, .inl v_state))] _ := hP.sub [0, 1] rfl
    have hDc := hD.sub (ws' := [(h0, .inr (7, [.ref h1, .ref h2, .int v_recorded, .ref h3, .ref h4, .ref h5, .int v_padLength, .ref h6, .int v_at, .int v_letter, .int v_hasUnder, .ref h7, .int v_numbersMany])), (h1, .inl (cI, 2628, .inl v_state))]) [0, 1] (by decide) rfl
    have hFc := va_free (wc := [(h0, .inr (7, [.ref h1, .ref h2, .int v_recorded, .ref h3, .ref h4, .ref h5, .int v_padLength, .ref h6, .int v_at, .int v_letter, .int v_hasUnder, .ref h7, .int v_numbersMany])), (h1, .inl (cI, 2628, .inl v_state))]) hD hS hA [0, 1] rfl
    refine va_calli (va_runV (As := [.int p2]) (rest := []) ⟨hx, hb, hml, hown, hts⟩ (c_X7_isCell l dC dI cI cC cT h0 h1 h2 h3 h4 h5 h6 h7 H.size v_state v_recorded v_padLength v_at v_letter v_hasUnder v_numbersMany p2 q3 hq3) (cwV 1 hts gX7_whyNotFaded_X7_isCell rfl rfl rfl hv_X7_isCell ⟨Nat.le_of_ble_eq_true rfl, Nat.le_of_ble_eq_true rfl⟩) ⟨preB_fb, va_recv hK hPc (ci := 7) (q0 := 0) rfl rfl, fun U hU hW => preB_mk hU hW hPc hK hDc hN⟩ rfl rfl hl.1 rfl (lv_room (Nat.le_of_ble_eq_true rfl)) dX7_whyNotFaded_10 ⟨Nat.zero_le _, Nat.zero_le _⟩) hS (fun q _ h => hFc q h) hFc (fun r_ u_ t H locs ht hvm hw hB hz1 hk1 hS => ?_)
    have hw : r_ = q3 := hw
    have hw := hw.symm
    subst hw
    obtain ⟨hP, hD⟩ := x_join (ws' := [(h0, .inr (7, [.ref h1, .ref h2, .int v_recorded, .ref h3, .ref h4, .ref h5, .int v_padLength, .ref h6, .int v_at, .int v_letter, .int v_hasUnder, .ref h7, .int v_numbersMany])), (h1, .inl (cI, 2628, .inl v_state))]) hP hD [0, 1] [] rfl rfl (by decide) (by decide) hk1 hFc ht hB [0, 1] (by decide) rfl
    clear hPc hDc hFc hk1 hB ht hz1 hvm
    refine lv_if_ne (tgt := 18) hx hb dX7_whyNotFaded_13 (by decide) (fun c4 => ?_) (fun c4 => ?_)
    · replace hd := ite_f c4 hd
      refine lv_iload_n hx hb dX7_whyNotFaded_18 rfl (lv_at hl 2 rfl) ?_
      refine lv_iload_n hx hb dX7_whyNotFaded_19 rfl (lv_at hl 1 rfl) ?_
      refine lv_icmp_lt (tgt := 33) hx hb dX7_whyNotFaded_20 (by decide) (fun c5 => ?_) (fun c5 => ?_)
      · replace hd := ite_t c5 hd
        refine lv_bipush (v := -2) hx hb dX7_whyNotFaded_33 (by decide) ?_
        refine lv_goto (tgt := 39) hx hb dX7_whyNotFaded_35 (by decide) ?_
        cases hd
        exact hend (by rfl) hP hD hS dX7_whyNotFaded_39
      · replace hd := ite_f c5 hd
        refine lv_iload_n hx hb dX7_whyNotFaded_23 rfl (lv_at hl 3 rfl) ?_
        refine lv_iconst (v := 0) hx hb dX7_whyNotFaded_24 (by decide) ?_
        refine lv_bipush (v := 99) hx hb dX7_whyNotFaded_25 (by decide) ?_
        obtain ⟨q6, hq6, hd⟩ := bnd_some hd
        have hPc : va_P (dC, dI) vwCl [] _ := hP.sub [] rfl
        have hDc := hD.sub (ws' := []) [] (by decide) rfl
        have hFc := va_free (wc := []) hD hS hA [] rfl
        refine va_calli (va_runS (As := [.int p3, .int (0 : Int32), .int (99 : Int32)]) (rest := []) ⟨hx, hb, hml, hown, hts⟩ (c_X7_within l dC dI cI cC cT H.size p3 (0 : Int32) (99 : Int32) q6 hq6) (va_cwS 3 hts gX7_whyNotFaded_X7_within rfl rfl rfl hp_X7_within ⟨Nat.le_of_ble_eq_true rfl, Nat.le_of_ble_eq_true rfl⟩) ⟨preB_fb, fun U hU hW => preB_mk hU hW hPc hK hDc hN⟩ rfl rfl hl.1 rfl (lv_room (Nat.le_of_ble_eq_true rfl)) dX7_whyNotFaded_27 ⟨Nat.zero_le _, Nat.zero_le _⟩) hS (fun q _ h => hFc q h) hFc (fun r_ u_ t H locs ht hvm hw hB hz1 hk1 hS => ?_)
        have hw : r_ = q6 := hw
        have hw := hw.symm
        subst hw
        obtain ⟨hP, hD⟩ := x_join (ws' := [(h0, .inr (7, [.ref h1, .ref h2, .int v_recorded, .ref h3, .ref h4, .ref h5, .int v_padLength, .ref h6, .int v_at, .int v_letter, .int v_hasUnder, .ref h7, .int v_numbersMany])), (h1, .inl (cI, 2628, .inl v_state))]) hP hD [] [0, 1] rfl rfl (by decide) (by decide) hk1 hFc ht hB [0, 1] (by decide) rfl
        clear hPc hDc hFc hk1 hB ht hz1 hvm
        refine lv_if_ne (tgt := 38) hx hb dX7_whyNotFaded_30 (by decide) (fun c7 => ?_) (fun c7 => ?_)
        · replace hd := ite_f c7 hd
          refine lv_iconst (v := 0) hx hb dX7_whyNotFaded_38 (by decide) ?_
          cases hd
          exact hend (by rfl) hP hD hS dX7_whyNotFaded_39
        · replace hd := ite_t c7 hd
          refine lv_bipush (v := -2) hx hb dX7_whyNotFaded_33 (by decide) ?_
          refine lv_goto (tgt := 39) hx hb dX7_whyNotFaded_35 (by decide) ?_
          cases hd
          exact hend (by rfl) hP hD hS dX7_whyNotFaded_39
    · replace hd := ite_t c4 hd
      refine lv_iconst (v := -1) hx hb dX7_whyNotFaded_16 (by decide) ?_
      cases hd
      exact hend (by rfl) hP hD hS dX7_whyNotFaded_17
def rmX7_fades : Room := { frames := 1, cells := 0, slots := 0, locals := 21 }
theorem kX7_fades_1 : (Cond.fieldLink RX7 7 "CassetteTonesModel" "state" "[I") ∈ wsX7_fades := List.mem_of_getElem? (i := 1) (by decide +kernel)
theorem inX7_fades_X7 : ∀ w ∈ wsX70, w ∈ wsX7_fades := by decide +kernel
theorem hp_X7_fades : yX7_fades.cls ≠ "java/lang/invoke/MethodHandle" ∧ yX7_fades.cls ≠ "java/lang/invoke/VarHandle" ∧ (parseMethodDescriptor yX7_fades.desc).map (fun d => d.parameters.length) = some 3 := by decide +kernel
theorem hv_X7_fades : yX7_fades.cls = RX7 ∧ yX7_fades.cls ≠ "java/lang/invoke/MethodHandle" ∧ yX7_fades.cls ≠ "java/lang/invoke/VarHandle" ∧ (parseMethodDescriptor yX7_fades.desc).map (fun d => d.parameters.length) = some 3 := by decide +kernel
set_option maxHeartbeats 4000000 in
set_option maxRecDepth 100000 in
theorem c_X7_fades (l : Launch) (dC : Nat → ClassId) (dI : Nat → Nat → Nat) (cI cC cT : ClassId) (h0 h1 h2 h3 h4 h5 h6 h7 : Nat) (sz : Nat) (v_state : (Nat → Int32)) (v_recorded : Int32) (v_padLength : Int32) (v_at : Int32) (v_letter : Int32) (v_hasUnder : Int32) (v_numbersMany : Int32) (p1 : Int32) (p2 : Int32) (p3 : Int32) (r : (Int32 × (Nat → Int32))) (hd : den_X7_fades v_state p1 p2 p3 = some r) : Met l yX7_fades wsX7_fades rmX7_fades (va_Pc [.ref h0, .int p1, .int p2, .int p3] (preB sz (dC, dI) [(h0, .inr (7, [.ref h1, .ref h2, .int v_recorded, .ref h3, .ref h4, .ref h5, .int v_padLength, .ref h6, .int v_at, .int v_letter, .int v_hasUnder, .ref h7, .int v_numbersMany])), (h1, .inl (cI, 2628, .inl v_state))] [(cI, .int), (cC, .char), (cT, .object "CassetteTones$Tape")])) (va_Qi (S := Unit) (fun v _ => v = r.1) (fun _ t => posB (dC, dI) [(h0, .inr (7, [.ref h1, .ref h2, .int v_recorded, .ref h3, .ref h4, .ref h5, .int v_padLength, .ref h6, .int v_at, .int v_letter, .int v_hasUnder, .ref h7, .int v_numbersMany])), (h1, .inl (cI, 2628, .inl r.2))] [(cI, .int), (cC, .char), (cT, .object "CassetteTones$Tape")] (va_A [(h0, .inr (7, [.ref h1, .ref h2, .int v_recorded, .ref h3, .ref h4, .ref h5, .int v_padLength, .ref h6, .int v_at, .int v_letter, .int v_hasUnder, .ref h7, .int v_numbersMany])), (h1, .inl (cI, 2628, .inl v_state))] sz) t) (va_A [(h0, .inr (7, [.ref h1, .ref h2, .int v_recorded, .ref h3, .ref h4, .ref h5, .int v_padLength, .ref h6, .int v_at, .int v_letter, .int v_hasUnder, .ref h7, .int v_numbersMany])), (h1, .inl (cI, 2628, .inl v_state))] sz)) 0 0 (va_A [(h0, .inr (7, [.ref h1, .ref h2, .int v_recorded, .ref h3, .ref h4, .ref h5, .int v_padLength, .ref h6, .int v_at, .int v_letter, .int v_hasUnder, .ref h7, .int v_numbersMany])), (h1, .inl (cI, 2628, .inl v_state))] sz) := by
  refine x_met_i (by decide) rfl (Nat.le_of_ble_eq_true rfl) ?_
  intro p e s m args below meth c A Q H locs ls hx hb hml hown hts hK hN hA hP hD hS hl hend
  have hown : s.vm.findClass RX7 = some m.cls := hown
  have hl : lv_has ls 7 [(0, .ref h0), (1, .int p1), (2, .int p2), (3, .int p3)] := hl
  unfold den_X7_fades at hd
  refine lv_iconst (v := 0) hx hb dX7_fades_0 (by decide) ?_
  refine lv_istore (lv' := [(4, .int (0 : Int32)), (0, .ref h0), (1, .int p1), (2, .int p2), (3, .int p3)]) hx hb dX7_fades_1 hl (by decide) rfl (fun ls hl => ?_)
  refine lv_iload_n hx hb dX7_fades_3 rfl (lv_at hl 2 rfl) ?_
  refine lv_istore (lv' := [(5, .int p1), (4, .int (0 : Int32)), (0, .ref h0), (1, .int p1), (2, .int p2), (3, .int p3)]) hx hb dX7_fades_4 hl (by decide) rfl (fun ls hl => ?_)
  obtain ⟨q1, hq1, hd⟩ := bnd_some hd
  have Kq1 : ∀ (H : Heap) (locs : List Loc) (ls : Array Slot), va_P (dC, dI) vwCl [(h0, .inr (7, [.ref h1, .ref h2, .int v_recorded, .ref h3, .ref h4, .ref h5, .int v_padLength, .ref h6, .int v_at, .int v_letter, .int v_hasUnder, .ref h7, .int v_numbersMany])), (h1, .inl (cI, 2628, .inl q1.2))] H → va_D A [(h0, .inr (7, [.ref h1, .ref h2, .int v_recorded, .ref h3, .ref h4, .ref h5, .int v_padLength, .ref h6, .int v_at, .int v_letter, .int v_hasUnder, .ref h7, .int v_numbersMany])), (h1, .inl (cI, 2628, .inl q1.2))] → va_S A s.heap H locs → lv_has ls 7 [(4, .int q1.1)] → W p l e rmX7_fades s m args below meth c H locs 0 0 Q (F0 m 92 ls []) := by
    intro H locs ls hP hD hS hl
    refine lv_iload hx hb dX7_fades_92 (lv_at hl 0 rfl) ?_
    cases hd
    exact hend (by rfl) hP hD hS dX7_fades_94
  clear hd
  have KL13 : ∀ (fu : Nat) (y4_6 : Int32) (y5_6 : Int32) (v_state_6 : (Nat → Int32)) (hd : den_X7_fades_L6 p2 p3 fu y4_6 y5_6 v_state_6 = some q1) (H : Heap) (locs : List Loc) (ls : Array Slot), va_P (dC, dI) vwCl [(h0, .inr (7, [.ref h1, .ref h2, .int v_recorded, .ref h3, .ref h4, .ref h5, .int v_padLength, .ref h6, .int v_at, .int v_letter, .int v_hasUnder, .ref h7, .int v_numbersMany])), (h1, .inl (cI, 2628, .inl v_state_6))] H → va_D A [(h0, .inr (7, [.ref h1, .ref h2, .int v_recorded, .ref h3, .ref h4, .ref h5, .int v_padLength, .ref h6, .int v_at, .int v_letter, .int v_hasUnder, .ref h7, .int v_numbersMany])), (h1, .inl (cI, 2628, .inl v_state_6))] → va_S A s.heap H locs → lv_has ls 7 [(0, .ref h0), (2, .int p2), (3, .int p3), (4, .int y4_6), (5, .int y5_6)] → W p l e rmX7_fades s m args below meth c H locs 0 0 Q (F0 m 6 ls []) := by
    intro fu
    induction fu with
    | zero => intro y4_6 y5_6 v_state_6 hd; exact no_some hd
    | succ fu ih =>
      intro y4_6 y5_6 v_state_6 hd H locs ls hP hD hS hl
      rw [den_X7_fades_L6] at hd
      refine lv_iload hx hb dX7_fades_6 (lv_at hl 4 rfl) ?_
      refine lv_iload_n hx hb dX7_fades_8 rfl (lv_at hl 1 rfl) ?_
      refine lv_icmp_gt (tgt := 92) hx hb dX7_fades_9 (by decide) (fun c2 => ?_) (fun c2 => ?_)
      · replace hd := ite_t c2 hd
        cases hd
        exact Kq1 _ _ _ hP hD hS (lv_sub hl [3] rfl)
      · replace hd := ite_f c2 hd
        refine lv_aload_n hx hb dX7_fades_12 rfl (lv_at hl 0 rfl) ?_
        refine lv_iload hx hb dX7_fades_13 (lv_at hl 4 rfl) ?_
        obtain ⟨q3, hq3, hd⟩ := bnd_some hd
        have hPc : va_P (dC, dI) vwCl [(h0, .inr (7, [.ref h1, .ref h2, .int v_recorded, .ref h3, .ref h4, .ref h5, .int v_padLength, .ref h6, .int v_at, .int v_letter, .int v_hasUnder, .ref h7, .int v_numbersMany])), (h1, .inl (cI, 2628, .inl v_state_6))] _ := hP.sub [0, 1] rfl
        have hDc := hD.sub (ws' := [(h0, .inr (7, [.ref h1, .ref h2, .int v_recorded, .ref h3, .ref h4, .ref h5, .int v_padLength, .ref h6, .int v_at, .int v_letter, .int v_hasUnder, .ref h7, .int v_numbersMany])), (h1, .inl (cI, 2628, .inl v_state_6))]) [0, 1] (by decide) rfl
        have hFc := va_free (wc := [(h0, .inr (7, [.ref h1, .ref h2, .int v_recorded, .ref h3, .ref h4, .ref h5, .int v_padLength, .ref h6, .int v_at, .int v_letter, .int v_hasUnder, .ref h7, .int v_numbersMany])), (h1, .inl (cI, 2628, .inl v_state_6))]) hD hS hA [0, 1] rfl
        refine va_calli (va_runV (As := [.int y5_6]) (rest := []) ⟨hx, hb, hml, hown, hts⟩ (c_X7_volumeOf l dC dI cI cC cT h0 h1 h2 h3 h4 h5 h6 h7 H.size v_state_6 v_recorded v_padLength v_at v_letter v_hasUnder v_numbersMany y5_6 q3 hq3) (cwV 1 hts gX7_fades_X7_volumeOf rfl rfl rfl hv_X7_volumeOf ⟨Nat.le_of_ble_eq_true rfl, Nat.le_of_ble_eq_true rfl⟩) ⟨preB_fb, va_recv hK hPc (ci := 7) (q0 := 0) rfl rfl, fun U hU hW => preB_mk hU hW hPc hK hDc hN⟩ rfl rfl hl.1 rfl (lv_room (Nat.le_of_ble_eq_true rfl)) dX7_fades_15 ⟨Nat.zero_le _, Nat.zero_le _⟩) hS (fun q _ h => hFc q h) hFc (fun r_ u_ t H locs ht hvm hw hB hz1 hk1 hS => ?_)
        have hw : r_ = q3 := hw
        have hw := hw.symm
        subst hw
        obtain ⟨hP, hD⟩ := x_join (ws' := [(h0, .inr (7, [.ref h1, .ref h2, .int v_recorded, .ref h3, .ref h4, .ref h5, .int v_padLength, .ref h6, .int v_at, .int v_letter, .int v_hasUnder, .ref h7, .int v_numbersMany])), (h1, .inl (cI, 2628, .inl v_state_6))]) hP hD [0, 1] [] rfl rfl (by decide) (by decide) hk1 hFc ht hB [0, 1] (by decide) rfl
        clear hPc hDc hFc hk1 hB ht hz1 hvm
        refine lv_iload_n hx hb dX7_fades_18 rfl (lv_at hl 2 rfl) ?_
        obtain ⟨q4, hq4, hd⟩ := bnd_some hd
        have Kq4 : ∀ (H : Heap) (locs : List Loc) (ls : Array Slot), va_P (dC, dI) vwCl [(h0, .inr (7, [.ref h1, .ref h2, .int v_recorded, .ref h3, .ref h4, .ref h5, .int v_padLength, .ref h6, .int v_at, .int v_letter, .int v_hasUnder, .ref h7, .int v_numbersMany])), (h1, .inl (cI, 2628, .inl v_state_6))] H → va_D A [(h0, .inr (7, [.ref h1, .ref h2, .int v_recorded, .ref h3, .ref h4, .ref h5, .int v_padLength, .ref h6, .int v_at, .int v_letter, .int v_hasUnder, .ref h7, .int v_numbersMany])), (h1, .inl (cI, 2628, .inl v_state_6))] → va_S A s.heap H locs → lv_has ls 7 [(0, .ref h0), (2, .int p2), (3, .int p3), (4, .int y4_6), (5, .int y5_6)] → W p l e rmX7_fades s m args below meth c H locs 0 0 Q (F0 m 27 ls [.int q4]) := by
          intro H locs ls hP hD hS hl
          refine lv_istore (lv' := [(6, .int q4), (0, .ref h0), (2, .int p2), (3, .int p3), (4, .int y4_6), (5, .int y5_6)]) hx hb dX7_fades_27 hl (by decide) rfl (fun ls hl => ?_)
          refine lv_iload hx hb dX7_fades_29 (lv_at hl 4 rfl) ?_
          refine lv_iload hx hb dX7_fades_31 (lv_at hl 0 rfl) ?_
          obtain ⟨q5, hq5, hd⟩ := bnd_some hd
          have Kq5 : ∀ (H : Heap) (locs : List Loc) (ls : Array Slot), va_P (dC, dI) vwCl [(h0, .inr (7, [.ref h1, .ref h2, .int v_recorded, .ref h3, .ref h4, .ref h5, .int v_padLength, .ref h6, .int v_at, .int v_letter, .int v_hasUnder, .ref h7, .int v_numbersMany])), (h1, .inl (cI, 2628, .inl v_state_6))] H → va_D A [(h0, .inr (7, [.ref h1, .ref h2, .int v_recorded, .ref h3, .ref h4, .ref h5, .int v_padLength, .ref h6, .int v_at, .int v_letter, .int v_hasUnder, .ref h7, .int v_numbersMany])), (h1, .inl (cI, 2628, .inl v_state_6))] → va_S A s.heap H locs → lv_has ls 7 [(0, .ref h0), (2, .int p2), (3, .int p3), (5, .int y5_6), (6, .int q4)] → W p l e rmX7_fades s m args below meth c H locs 0 0 Q (F0 m 41 ls [.int q5, .int y4_6]) := by
            intro H locs ls hP hD hS hl
            refine lv_iadd hx hb dX7_fades_41 ?_
            refine lv_istore (lv' := [(4, .int (y4_6 + q5)), (0, .ref h0), (2, .int p2), (3, .int p3), (5, .int y5_6), (6, .int q4)]) hx hb dX7_fades_42 hl (by decide) rfl (fun ls hl => ?_)
            refine lv_aload_n hx hb dX7_fades_44 rfl (lv_at hl 1 rfl) ?_
            refine va_get (D := (dC, dI)) (ci := 7) (v := .ref h1) (C := RX7) (T := TX7) (N := 13) hx hb hts inX7_fades_X7 hown hK hP 0 rfl rfl 0 (by decide) (hts _ kX7_fades_1) (fun _ h9 => h9) rfl dX7_fades_45 ?_
            refine lv_sipush (v := 164) hx hb dX7_fades_48 (by decide) ?_
            refine lv_iload hx hb dX7_fades_51 (lv_at hl 4 rfl) ?_
            refine lv_iadd hx hb dX7_fades_53 ?_
            refine lv_iload hx hb dX7_fades_54 (lv_at hl 5 rfl) ?_
            obtain ⟨q6, hq6, hd⟩ := bnd_some hd
            have Kq6 : ∀ (H : Heap) (locs : List Loc) (ls : Array Slot), va_P (dC, dI) vwCl [(h0, .inr (7, [.ref h1, .ref h2, .int v_recorded, .ref h3, .ref h4, .ref h5, .int v_padLength, .ref h6, .int v_at, .int v_letter, .int v_hasUnder, .ref h7, .int v_numbersMany])), (h1, .inl (cI, 2628, .inl v_state_6))] H → va_D A [(h0, .inr (7, [.ref h1, .ref h2, .int v_recorded, .ref h3, .ref h4, .ref h5, .int v_padLength, .ref h6, .int v_at, .int v_letter, .int v_hasUnder, .ref h7, .int v_numbersMany])), (h1, .inl (cI, 2628, .inl v_state_6))] → va_S A s.heap H locs → lv_has ls 7 [(0, .ref h0), (2, .int p2), (3, .int p3), (4, .int (y4_6 + q5)), (5, .int y5_6)] → W p l e rmX7_fades s m args below meth c H locs 0 0 Q (F0 m 85 ls [.int q6, .int ((164 : Int32) + y5_6), .ref h1]) := by
              intro H locs ls hP hD hS hl
              obtain ⟨g7, hd⟩ := gd_some hd
              refine x_iast (k := ((164 : Int32) + y5_6).toNatClampNeg) hx hb hK hP hD hS 1 0 rfl rfl (inb_in g7) rfl dX7_fades_85 (fun H locs hP hD hS => ?_)
              have hP : va_P (dC, dI) vwCl [(h0, .inr (7, [.ref h1, .ref h2, .int v_recorded, .ref h3, .ref h4, .ref h5, .int v_padLength, .ref h6, .int v_at, .int v_letter, .int v_hasUnder, .ref h7, .int v_numbersMany])), (h1, .inl (cI, 2628, .inl (upd v_state_6 ((164 : Int32) + y5_6).toNatClampNeg q6)))] H := hP
              have hD : va_D A [(h0, .inr (7, [.ref h1, .ref h2, .int v_recorded, .ref h3, .ref h4, .ref h5, .int v_padLength, .ref h6, .int v_at, .int v_letter, .int v_hasUnder, .ref h7, .int v_numbersMany])), (h1, .inl (cI, 2628, .inl (upd v_state_6 ((164 : Int32) + y5_6).toNatClampNeg q6)))] := hD
              refine lv_iinc (v := (y5_6 + (1 : Int32))) (lv' := [(5, .int (y5_6 + (1 : Int32))), (0, .ref h0), (2, .int p2), (3, .int p3), (4, .int (y4_6 + q5))]) hx hb dX7_fades_86 hl (k := 4) rfl (by first | rfl | decide) (by decide) rfl (fun ls hl => ?_)
              refine lv_goto (tgt := 6) hx hb dX7_fades_89 (by decide) ?_
              exact ih (y4_6 + q5) (y5_6 + (1 : Int32)) (upd v_state_6 ((164 : Int32) + y5_6).toNatClampNeg q6) hd _ _ _ hP hD hS (lv_sub hl [1, 2, 3, 4, 0] rfl)
            replace hd := hq6
            clear hq6
            refine lv_if_eq (tgt := 74) hx hb dX7_fades_56 (by decide) (fun c8 => ?_) (fun c8 => ?_)
            · replace hd := ite_t c8 hd
              refine lv_aload_n hx hb dX7_fades_74 rfl (lv_at hl 1 rfl) ?_
              refine va_get (D := (dC, dI)) (ci := 7) (v := .ref h1) (C := RX7) (T := TX7) (N := 13) hx hb hts inX7_fades_X7 hown hK hP 0 rfl rfl 0 (by decide) (hts _ kX7_fades_1) (fun _ h9 => h9) rfl dX7_fades_75 ?_
              refine lv_sipush (v := 164) hx hb dX7_fades_78 (by decide) ?_
              refine lv_iload hx hb dX7_fades_81 (lv_at hl 4 rfl) ?_
              refine lv_iadd hx hb dX7_fades_83 ?_
              obtain ⟨g9, hd⟩ := gd_some hd
              refine x_iald (k := ((164 : Int32) + y5_6).toNatClampNeg) hx hb hK hP 1 0 rfl rfl (inb_in g9) rfl dX7_fades_84 ?_
              cases hd
              exact Kq6 _ _ _ hP hD hS (lv_sub hl [1, 2, 3, 0, 4] rfl)
            · replace hd := ite_f c8 hd
              refine lv_iload_n hx hb dX7_fades_59 rfl (lv_at hl 3 rfl) ?_
              refine lv_sipush (v := 128) hx hb dX7_fades_60 (by decide) ?_
              refine lv_aload_n hx hb dX7_fades_63 rfl (lv_at hl 1 rfl) ?_
              refine lv_iload hx hb dX7_fades_64 (lv_at hl 4 rfl) ?_
              obtain ⟨q10, hq10, hd⟩ := bnd_some hd
              have hPc : va_P (dC, dI) vwCl [(h0, .inr (7, [.ref h1, .ref h2, .int v_recorded, .ref h3, .ref h4, .ref h5, .int v_padLength, .ref h6, .int v_at, .int v_letter, .int v_hasUnder, .ref h7, .int v_numbersMany])), (h1, .inl (cI, 2628, .inl v_state_6))] _ := hP.sub [0, 1] rfl
              have hDc := hD.sub (ws' := [(h0, .inr (7, [.ref h1, .ref h2, .int v_recorded, .ref h3, .ref h4, .ref h5, .int v_padLength, .ref h6, .int v_at, .int v_letter, .int v_hasUnder, .ref h7, .int v_numbersMany])), (h1, .inl (cI, 2628, .inl v_state_6))]) [0, 1] (by decide) rfl
              have hFc := va_free (wc := [(h0, .inr (7, [.ref h1, .ref h2, .int v_recorded, .ref h3, .ref h4, .ref h5, .int v_padLength, .ref h6, .int v_at, .int v_letter, .int v_hasUnder, .ref h7, .int v_numbersMany])), (h1, .inl (cI, 2628, .inl v_state_6))]) hD hS hA [0, 1] rfl
              refine va_calli (va_runV (As := [.int y5_6]) (rest := [.int (128 : Int32), .int p3, .int ((164 : Int32) + y5_6), .ref h1]) ⟨hx, hb, hml, hown, hts⟩ (c_X7_badness l dC dI cI cC cT h0 h1 h2 h3 h4 h5 h6 h7 H.size v_state_6 v_recorded v_padLength v_at v_letter v_hasUnder v_numbersMany y5_6 q10 hq10) (cwV 1 hts gX7_fades_X7_badness rfl rfl rfl hv_X7_badness ⟨Nat.le_of_ble_eq_true rfl, Nat.le_of_ble_eq_true rfl⟩) ⟨preB_fb, va_recv hK hPc (ci := 7) (q0 := 0) rfl rfl, fun U hU hW => preB_mk hU hW hPc hK hDc hN⟩ rfl rfl hl.1 rfl (lv_room (Nat.le_of_ble_eq_true rfl)) dX7_fades_66 ⟨Nat.zero_le _, Nat.zero_le _⟩) hS (fun q _ h => hFc q h) hFc (fun r_ u_ t H locs ht hvm hw hB hz1 hk1 hS => ?_)
              have hw : r_ = q10 := hw
              have hw := hw.symm
              subst hw
              obtain ⟨hP, hD⟩ := x_join (ws' := [(h0, .inr (7, [.ref h1, .ref h2, .int v_recorded, .ref h3, .ref h4, .ref h5, .int v_padLength, .ref h6, .int v_at, .int v_letter, .int v_hasUnder, .ref h7, .int v_numbersMany])), (h1, .inl (cI, 2628, .inl v_state_6))]) hP hD [0, 1] [] rfl rfl (by decide) (by decide) hk1 hFc ht hB [0, 1] (by decide) rfl
              clear hPc hDc hFc hk1 hB ht hz1 hvm
              refine lv_imul hx hb dX7_fades_69 ?_
              refine lv_iadd hx hb dX7_fades_70 ?_
              refine lv_goto (tgt := 85) hx hb dX7_fades_71 (by decide) ?_
              cases hd
              exact Kq6 _ _ _ hP hD hS (lv_sub hl [1, 2, 3, 0, 4] rfl)
          replace hd := hq5
          clear hq5
          refine lv_if_eq (tgt := 40) hx hb dX7_fades_33 (by decide) (fun c11 => ?_) (fun c11 => ?_)
          · replace hd := ite_t c11 hd
            refine lv_iconst (v := 0) hx hb dX7_fades_40 (by decide) ?_
            cases hd
            exact Kq5 _ _ _ hP hD hS (lv_sub hl [1, 2, 3, 5, 0] rfl)
          · replace hd := ite_f c11 hd
            refine lv_iconst (v := 1) hx hb dX7_fades_36 (by decide) ?_
            refine lv_goto (tgt := 41) hx hb dX7_fades_37 (by decide) ?_
            cases hd
            exact Kq5 _ _ _ hP hD hS (lv_sub hl [1, 2, 3, 5, 0] rfl)
        replace hd := hq4
        clear hq4
        refine lv_icmp_le (tgt := 26) hx hb dX7_fades_19 (by decide) (fun c12 => ?_) (fun c12 => ?_)
        · replace hd := ite_t c12 hd
          refine lv_iconst (v := 0) hx hb dX7_fades_26 (by decide) ?_
          cases hd
          exact Kq4 _ _ _ hP hD hS (lv_sub hl [0, 1, 2, 3, 4] rfl)
        · replace hd := ite_f c12 hd
          refine lv_iconst (v := 1) hx hb dX7_fades_22 (by decide) ?_
          refine lv_goto (tgt := 27) hx hb dX7_fades_23 (by decide) ?_
          cases hd
          exact Kq4 _ _ _ hP hD hS (lv_sub hl [0, 1, 2, 3, 4] rfl)
  exact KL13 FU (0 : Int32) p1 v_state hq1 _ _ _ hP hD hS (lv_sub hl [2, 4, 5, 1, 0] rfl)
def rmX7_fade : Room := { frames := 7, cells := 0, slots := 0, locals := 151 }
theorem hp_X7_fade : yX7_fade.cls ≠ "java/lang/invoke/MethodHandle" ∧ yX7_fade.cls ≠ "java/lang/invoke/VarHandle" ∧ (parseMethodDescriptor yX7_fade.desc).map (fun d => d.parameters.length) = some 3 := by decide +kernel
theorem hv_X7_fade : yX7_fade.cls = RX7 ∧ yX7_fade.cls ≠ "java/lang/invoke/MethodHandle" ∧ yX7_fade.cls ≠ "java/lang/invoke/VarHandle" ∧ (parseMethodDescriptor yX7_fade.desc).map (fun d => d.parameters.length) = some 3 := by decide +kernel
set_option maxHeartbeats 4000000 in
set_option maxRecDepth 100000 in
theorem c_X7_fade (l : Launch) (dC : Nat → ClassId) (dI : Nat → Nat → Nat) (cI cC cT : ClassId) (h0 h1 h2 h3 h4 h5 h6 h7 : Nat) (sz : Nat) (v_state : (Nat → Int32)) (v_history : (Nat → Int32)) (v_recorded : Int32) (v_padLength : Int32) (v_at : Int32) (v_letter : Int32) (v_hasUnder : Int32) (v_numbersMany : Int32) (p1 : Int32) (p2 : Int32) (p3 : Int32) (r : (Int32 × (Nat → Int32) × (Nat → Int32) × Int32)) (hd : den_X7_fade v_state v_history v_recorded p1 p2 p3 = some r) : Met l yX7_fade wsX7_fade rmX7_fade (va_Pc [.ref h0, .int p1, .int p2, .int p3] (preB sz (dC, dI) [(h0, .inr (7, [.ref h1, .ref h2, .int v_recorded, .ref h3, .ref h4, .ref h5, .int v_padLength, .ref h6, .int v_at, .int v_letter, .int v_hasUnder, .ref h7, .int v_numbersMany])), (h1, .inl (cI, 2628, .inl v_state)), (h2, .inl (cI, 15768, .inl v_history))] [(cI, .int), (cC, .char), (cT, .object "CassetteTones$Tape")])) (va_Qi (S := Unit) (fun v _ => v = r.1) (fun _ t => posB (dC, dI) [(h0, .inr (7, [.ref h1, .ref h2, .int r.2.2.2, .ref h3, .ref h4, .ref h5, .int v_padLength, .ref h6, .int v_at, .int v_letter, .int v_hasUnder, .ref h7, .int v_numbersMany])), (h1, .inl (cI, 2628, .inl r.2.1)), (h2, .inl (cI, 15768, .inl r.2.2.1))] [(cI, .int), (cC, .char), (cT, .object "CassetteTones$Tape")] (va_A [(h0, .inr (7, [.ref h1, .ref h2, .int v_recorded, .ref h3, .ref h4, .ref h5, .int v_padLength, .ref h6, .int v_at, .int v_letter, .int v_hasUnder, .ref h7, .int v_numbersMany])), (h1, .inl (cI, 2628, .inl v_state)), (h2, .inl (cI, 15768, .inl v_history))] sz) t) (va_A [(h0, .inr (7, [.ref h1, .ref h2, .int v_recorded, .ref h3, .ref h4, .ref h5, .int v_padLength, .ref h6, .int v_at, .int v_letter, .int v_hasUnder, .ref h7, .int v_numbersMany])), (h1, .inl (cI, 2628, .inl v_state)), (h2, .inl (cI, 15768, .inl v_history))] sz)) 0 0 (va_A [(h0, .inr (7, [.ref h1, .ref h2, .int v_recorded, .ref h3, .ref h4, .ref h5, .int v_padLength, .ref h6, .int v_at, .int v_letter, .int v_hasUnder, .ref h7, .int v_numbersMany])), (h1, .inl (cI, 2628, .inl v_state)), (h2, .inl (cI, 15768, .inl v_history))] sz) := by
  refine x_met_i (by decide) rfl (Nat.le_of_ble_eq_true rfl) ?_
  intro p e s m args below meth c A Q H locs ls hx hb hml hown hts hK hN hA hP hD hS hl hend
  have hown : s.vm.findClass RX7 = some m.cls := hown
  have hl : lv_has ls 5 [(0, .ref h0), (1, .int p1), (2, .int p2), (3, .int p3)] := hl
  unfold den_X7_fade at hd
  refine lv_aload_n hx hb dX7_fade_0 rfl (lv_at hl 0 rfl) ?_
  refine lv_iload_n hx hb dX7_fade_1 rfl (lv_at hl 1 rfl) ?_
  refine lv_iload_n hx hb dX7_fade_2 rfl (lv_at hl 2 rfl) ?_
  refine lv_iload_n hx hb dX7_fade_3 rfl (lv_at hl 3 rfl) ?_
  obtain ⟨q1, hq1, hd⟩ := bnd_some hd
  have hPc : va_P (dC, dI) vwCl [(h0, .inr (7, [.ref h1, .ref h2, .int v_recorded, .ref h3, .ref h4, .ref h5, .int v_padLength, .ref h6, .int v_at, .int v_letter, .int v_hasUnder, .ref h7, .int v_numbersMany])), (h1, .inl (cI, 2628, .inl v_state))] _ := hP.sub [0, 1] rfl
  have hDc := hD.sub (ws' := [(h0, .inr (7, [.ref h1, .ref h2, .int v_recorded, .ref h3, .ref h4, .ref h5, .int v_padLength, .ref h6, .int v_at, .int v_letter, .int v_hasUnder, .ref h7, .int v_numbersMany])), (h1, .inl (cI, 2628, .inl v_state))]) [0, 1] (by decide) rfl
  have hFc := va_free (wc := [(h0, .inr (7, [.ref h1, .ref h2, .int v_recorded, .ref h3, .ref h4, .ref h5, .int v_padLength, .ref h6, .int v_at, .int v_letter, .int v_hasUnder, .ref h7, .int v_numbersMany])), (h1, .inl (cI, 2628, .inl v_state))]) hD hS hA [0, 1] rfl
  refine va_calli (va_runV (As := [.int p1, .int p2, .int p3]) (rest := []) ⟨hx, hb, hml, hown, hts⟩ (c_X7_whyNotFaded l dC dI cI cC cT h0 h1 h2 h3 h4 h5 h6 h7 H.size v_state v_recorded v_padLength v_at v_letter v_hasUnder v_numbersMany p1 p2 p3 q1 hq1) (cwV 3 hts gX7_fade_X7_whyNotFaded rfl rfl rfl hv_X7_whyNotFaded ⟨Nat.le_of_ble_eq_true rfl, Nat.le_of_ble_eq_true rfl⟩) ⟨preB_fb, va_recv hK hPc (ci := 7) (q0 := 0) rfl rfl, fun U hU hW => preB_mk hU hW hPc hK hDc hN⟩ rfl rfl hl.1 rfl (lv_room (Nat.le_of_ble_eq_true rfl)) dX7_fade_4 ⟨Nat.zero_le _, Nat.zero_le _⟩) hS (fun q _ h => hFc q h) hFc (fun r_ u_ t H locs ht hvm hw hB hz1 hk1 hS => ?_)
  have hw : r_ = q1 := hw
  have hw := hw.symm
  subst hw
  obtain ⟨hP, hD⟩ := x_join (ws' := [(h0, .inr (7, [.ref h1, .ref h2, .int v_recorded, .ref h3, .ref h4, .ref h5, .int v_padLength, .ref h6, .int v_at, .int v_letter, .int v_hasUnder, .ref h7, .int v_numbersMany])), (h1, .inl (cI, 2628, .inl v_state)), (h2, .inl (cI, 15768, .inl v_history))]) hP hD [0, 1] [2] rfl rfl (by decide) (by decide) hk1 hFc ht hB [1, 2, 0] (by decide) rfl
  clear hPc hDc hFc hk1 hB ht hz1 hvm
  refine lv_istore (lv' := [(4, .int q1), (0, .ref h0), (1, .int p1), (2, .int p2), (3, .int p3)]) hx hb dX7_fade_7 hl (by decide) rfl (fun ls hl => ?_)
  refine lv_iload hx hb dX7_fade_9 (lv_at hl 0 rfl) ?_
  refine lv_if_ge (tgt := 17) hx hb dX7_fade_11 (by decide) (fun c2 => ?_) (fun c2 => ?_)
  · replace hd := ite_t c2 hd
    refine lv_aload_n hx hb dX7_fade_17 rfl (lv_at hl 1 rfl) ?_
    obtain ⟨q3, hq3, hd⟩ := bnd_some hd
    have hPc : va_P (dC, dI) vwCl [(h0, .inr (7, [.ref h1, .ref h2, .int v_recorded, .ref h3, .ref h4, .ref h5, .int v_padLength, .ref h6, .int v_at, .int v_letter, .int v_hasUnder, .ref h7, .int v_numbersMany])), (h1, .inl (cI, 2628, .inl v_state)), (h2, .inl (cI, 15768, .inl v_history))] _ := hP.sub [0, 1, 2] rfl
    have hDc := hD.sub (ws' := [(h0, .inr (7, [.ref h1, .ref h2, .int v_recorded, .ref h3, .ref h4, .ref h5, .int v_padLength, .ref h6, .int v_at, .int v_letter, .int v_hasUnder, .ref h7, .int v_numbersMany])), (h1, .inl (cI, 2628, .inl v_state)), (h2, .inl (cI, 15768, .inl v_history))]) [0, 1, 2] (by decide) rfl
    have hFc := va_free (wc := [(h0, .inr (7, [.ref h1, .ref h2, .int v_recorded, .ref h3, .ref h4, .ref h5, .int v_padLength, .ref h6, .int v_at, .int v_letter, .int v_hasUnder, .ref h7, .int v_numbersMany])), (h1, .inl (cI, 2628, .inl v_state)), (h2, .inl (cI, 15768, .inl v_history))]) hD hS hA [0, 1, 2] rfl
    refine va_callv (va_runV (As := []) (rest := []) ⟨hx, hb, hml, hown, hts⟩ (c_X7_record l dC dI cI cC cT h0 h1 h2 h3 h4 h5 h6 h7 H.size v_state v_history v_recorded v_padLength v_at v_letter v_hasUnder v_numbersMany q3 hq3) (cwV 0 hts gX7_fade_X7_record rfl rfl rfl hv_X7_record ⟨Nat.le_of_ble_eq_true rfl, Nat.le_of_ble_eq_true rfl⟩) ⟨preB_fb, va_recv hK hPc (ci := 7) (q0 := 0) rfl rfl, fun U hU hW => preB_mk hU hW hPc hK hDc hN⟩ rfl rfl hl.1 rfl (lv_room (Nat.le_of_ble_eq_true rfl)) dX7_fade_18 ⟨Nat.zero_le _, Nat.zero_le _⟩) hS (fun q _ h => hFc q h) hFc (fun u_ t H locs ht hvm hw hB hz1 hk1 hS => ?_)
    obtain ⟨hP, hD⟩ := x_join (ws' := [(h0, .inr (7, [.ref h1, .ref h2, .int q3.2, .ref h3, .ref h4, .ref h5, .int v_padLength, .ref h6, .int v_at, .int v_letter, .int v_hasUnder, .ref h7, .int v_numbersMany])), (h1, .inl (cI, 2628, .inl v_state)), (h2, .inl (cI, 15768, .inl q3.1))]) hP hD [0, 1, 2] [] rfl rfl (by decide) (by decide) hk1 hFc ht hB [0, 1, 2] (by decide) rfl
    clear hPc hDc hFc hk1 hB ht hz1 hvm
    refine lv_aload_n hx hb dX7_fade_21 rfl (lv_at hl 1 rfl) ?_
    refine lv_iload_n hx hb dX7_fade_22 rfl (lv_at hl 2 rfl) ?_
    refine lv_iload_n hx hb dX7_fade_23 rfl (lv_at hl 3 rfl) ?_
    refine lv_iload_n hx hb dX7_fade_24 rfl (lv_at hl 4 rfl) ?_
    obtain ⟨q4, hq4, hd⟩ := bnd_some hd
    have hPc : va_P (dC, dI) vwCl [(h0, .inr (7, [.ref h1, .ref h2, .int q3.2, .ref h3, .ref h4, .ref h5, .int v_padLength, .ref h6, .int v_at, .int v_letter, .int v_hasUnder, .ref h7, .int v_numbersMany])), (h1, .inl (cI, 2628, .inl v_state))] _ := hP.sub [0, 1] rfl
    have hDc := hD.sub (ws' := [(h0, .inr (7, [.ref h1, .ref h2, .int q3.2, .ref h3, .ref h4, .ref h5, .int v_padLength, .ref h6, .int v_at, .int v_letter, .int v_hasUnder, .ref h7, .int v_numbersMany])), (h1, .inl (cI, 2628, .inl v_state))]) [0, 1] (by decide) rfl
    have hFc := va_free (wc := [(h0, .inr (7, [.ref h1, .ref h2, .int q3.2, .ref h3, .ref h4, .ref h5, .int v_padLength, .ref h6, .int v_at, .int v_letter, .int v_hasUnder, .ref h7, .int v_numbersMany])), (h1, .inl (cI, 2628, .inl v_state))]) hD hS hA [0, 1] rfl
    refine va_calli (va_runV (As := [.int p1, .int p2, .int p3]) (rest := []) ⟨hx, hb, hml, hown, hts⟩ (c_X7_fades l dC dI cI cC cT h0 h1 h2 h3 h4 h5 h6 h7 H.size v_state q3.2 v_padLength v_at v_letter v_hasUnder v_numbersMany p1 p2 p3 q4 hq4) (cwV 3 hts gX7_fade_X7_fades rfl rfl rfl hv_X7_fades ⟨Nat.le_of_ble_eq_true rfl, Nat.le_of_ble_eq_true rfl⟩) ⟨preB_fb, va_recv hK hPc (ci := 7) (q0 := 0) rfl rfl, fun U hU hW => preB_mk hU hW hPc hK hDc hN⟩ rfl rfl hl.1 rfl (lv_room (Nat.le_of_ble_eq_true rfl)) dX7_fade_25 ⟨Nat.zero_le _, Nat.zero_le _⟩) hS (fun q _ h => hFc q h) hFc (fun r_ u_ t H locs ht hvm hw hB hz1 hk1 hS => ?_)
    have hw : r_ = q4.1 := hw
    have hw := hw.symm
    subst hw
    obtain ⟨hP, hD⟩ := x_join (ws' := [(h0, .inr (7, [.ref h1, .ref h2, .int q3.2, .ref h3, .ref h4, .ref h5, .int v_padLength, .ref h6, .int v_at, .int v_letter, .int v_hasUnder, .ref h7, .int v_numbersMany])), (h1, .inl (cI, 2628, .inl q4.2)), (h2, .inl (cI, 15768, .inl q3.1))]) hP hD [0, 1] [2] rfl rfl (by decide) (by decide) hk1 hFc ht hB [1, 2, 0] (by decide) rfl
    clear hPc hDc hFc hk1 hB ht hz1 hvm
    cases hd
    exact hend (by rfl) hP hD hS dX7_fade_28
  · replace hd := ite_f c2 hd
    refine lv_iload hx hb dX7_fade_14 (lv_at hl 0 rfl) ?_
    cases hd
    exact hend (by rfl) hP hD hS dX7_fade_16
def rmX7_turns : Room := { frames := 1, cells := 0, slots := 0, locals := 21 }
theorem kX7_turns_1 : (Cond.fieldLink RX7 7 "CassetteTonesModel" "state" "[I") ∈ wsX7_turns := List.mem_of_getElem? (i := 1) (by decide +kernel)
theorem inX7_turns_X7 : ∀ w ∈ wsX70, w ∈ wsX7_turns := by decide +kernel
theorem hp_X7_turns : yX7_turns.cls ≠ "java/lang/invoke/MethodHandle" ∧ yX7_turns.cls ≠ "java/lang/invoke/VarHandle" ∧ (parseMethodDescriptor yX7_turns.desc).map (fun d => d.parameters.length) = some 1 := by decide +kernel
theorem hv_X7_turns : yX7_turns.cls = RX7 ∧ yX7_turns.cls ≠ "java/lang/invoke/MethodHandle" ∧ yX7_turns.cls ≠ "java/lang/invoke/VarHandle" ∧ (parseMethodDescriptor yX7_turns.desc).map (fun d => d.parameters.length) = some 1 := by decide +kernel
set_option maxHeartbeats 4000000 in
set_option maxRecDepth 100000 in
theorem c_X7_turns (l : Launch) (dC : Nat → ClassId) (dI : Nat → Nat → Nat) (cI cC cT : ClassId) (h0 h1 h2 h3 h4 h5 h6 h7 : Nat) (sz : Nat) (v_state : (Nat → Int32)) (v_recorded : Int32) (v_padLength : Int32) (v_at : Int32) (v_letter : Int32) (v_hasUnder : Int32) (v_numbersMany : Int32) (p1 : Int32) (r : (Int32 × (Nat → Int32))) (hd : den_X7_turns v_state p1 = some r) : Met l yX7_turns wsX7_turns rmX7_turns (va_Pc [.ref h0, .int p1] (preB sz (dC, dI) [(h0, .inr (7, [.ref h1, .ref h2, .int v_recorded, .ref h3, .ref h4, .ref h5, .int v_padLength, .ref h6, .int v_at, .int v_letter, .int v_hasUnder, .ref h7, .int v_numbersMany])), (h1, .inl (cI, 2628, .inl v_state))] [(cI, .int), (cC, .char), (cT, .object "CassetteTones$Tape")])) (va_Qi (S := Unit) (fun v _ => v = r.1) (fun _ t => posB (dC, dI) [(h0, .inr (7, [.ref h1, .ref h2, .int v_recorded, .ref h3, .ref h4, .ref h5, .int v_padLength, .ref h6, .int v_at, .int v_letter, .int v_hasUnder, .ref h7, .int v_numbersMany])), (h1, .inl (cI, 2628, .inl r.2))] [(cI, .int), (cC, .char), (cT, .object "CassetteTones$Tape")] (va_A [(h0, .inr (7, [.ref h1, .ref h2, .int v_recorded, .ref h3, .ref h4, .ref h5, .int v_padLength, .ref h6, .int v_at, .int v_letter, .int v_hasUnder, .ref h7, .int v_numbersMany])), (h1, .inl (cI, 2628, .inl v_state))] sz) t) (va_A [(h0, .inr (7, [.ref h1, .ref h2, .int v_recorded, .ref h3, .ref h4, .ref h5, .int v_padLength, .ref h6, .int v_at, .int v_letter, .int v_hasUnder, .ref h7, .int v_numbersMany])), (h1, .inl (cI, 2628, .inl v_state))] sz)) 0 0 (va_A [(h0, .inr (7, [.ref h1, .ref h2, .int v_recorded, .ref h3, .ref h4, .ref h5, .int v_padLength, .ref h6, .int v_at, .int v_letter, .int v_hasUnder, .ref h7, .int v_numbersMany])), (h1, .inl (cI, 2628, .inl v_state))] sz) := by
  refine x_met_i (by decide) rfl (Nat.le_of_ble_eq_true rfl) ?_
  intro p e s m args below meth c A Q H locs ls hx hb hml hown hts hK hN hA hP hD hS hl hend
  have hown : s.vm.findClass RX7 = some m.cls := hown
  have hl : lv_has ls 2 [(0, .ref h0), (1, .int p1)] := hl
  unfold den_X7_turns at hd
  refine lv_aload_n hx hb dX7_turns_0 rfl (lv_at hl 0 rfl) ?_
  refine va_get (D := (dC, dI)) (ci := 7) (v := .ref h1) (C := RX7) (T := TX7) (N := 13) hx hb hts inX7_turns_X7 hown hK hP 0 rfl rfl 0 (by decide) (hts _ kX7_turns_1) (fun _ h9 => h9) rfl dX7_turns_1 ?_
  refine lv_sipush (v := 164) hx hb dX7_turns_4 (by decide) ?_
  refine lv_iload_n hx hb dX7_turns_7 rfl (lv_at hl 1 rfl) ?_
  refine lv_iadd hx hb dX7_turns_8 ?_
  refine lv_dup2_11 hx hb dX7_turns_9 rfl rfl ?_
  obtain ⟨g1, hd⟩ := gd_some hd
  refine x_iald (k := ((164 : Int32) + p1).toNatClampNeg) hx hb hK hP 1 0 rfl rfl (inb_in g1) rfl dX7_turns_10 ?_
  refine lv_aload_n hx hb dX7_turns_11 rfl (lv_at hl 0 rfl) ?_
  refine lv_iload_n hx hb dX7_turns_12 rfl (lv_at hl 1 rfl) ?_
  obtain ⟨q2, hq2, hd⟩ := bnd_some hd
  have hPc : va_P (dC, dI) vwCl [(h0, .inr (7, [.ref h1, .ref h2, .int v_recorded, .ref h3, .ref h4, .ref h5, .int v_padLength, .ref h6, .int v_at, .int v_letter, .int v_hasUnder, .ref h7, .int v_numbersMany])), (h1, .inl (cI, 2628, .inl v_state))] _ := hP.sub [0, 1] rfl
  have hDc := hD.sub (ws' := [(h0, .inr (7, [.ref h1, .ref h2, .int v_recorded, .ref h3, .ref h4, .ref h5, .int v_padLength, .ref h6, .int v_at, .int v_letter, .int v_hasUnder, .ref h7, .int v_numbersMany])), (h1, .inl (cI, 2628, .inl v_state))]) [0, 1] (by decide) rfl
  have hFc := va_free (wc := [(h0, .inr (7, [.ref h1, .ref h2, .int v_recorded, .ref h3, .ref h4, .ref h5, .int v_padLength, .ref h6, .int v_at, .int v_letter, .int v_hasUnder, .ref h7, .int v_numbersMany])), (h1, .inl (cI, 2628, .inl v_state))]) hD hS hA [0, 1] rfl
  refine va_calli (va_runV (As := [.int p1]) (rest := [.int (v_state ((164 : Int32) + p1).toNatClampNeg), .int ((164 : Int32) + p1), .ref h1]) ⟨hx, hb, hml, hown, hts⟩ (c_X7_badness l dC dI cI cC cT h0 h1 h2 h3 h4 h5 h6 h7 H.size v_state v_recorded v_padLength v_at v_letter v_hasUnder v_numbersMany p1 q2 hq2) (cwV 1 hts gX7_turns_X7_badness rfl rfl rfl hv_X7_badness ⟨Nat.le_of_ble_eq_true rfl, Nat.le_of_ble_eq_true rfl⟩) ⟨preB_fb, va_recv hK hPc (ci := 7) (q0 := 0) rfl rfl, fun U hU hW => preB_mk hU hW hPc hK hDc hN⟩ rfl rfl hl.1 rfl (lv_room (Nat.le_of_ble_eq_true rfl)) dX7_turns_13 ⟨Nat.zero_le _, Nat.zero_le _⟩) hS (fun q _ h => hFc q h) hFc (fun r_ u_ t H locs ht hvm hw hB hz1 hk1 hS => ?_)
  have hw : r_ = q2 := hw
  have hw := hw.symm
  subst hw
  obtain ⟨hP, hD⟩ := x_join (ws' := [(h0, .inr (7, [.ref h1, .ref h2, .int v_recorded, .ref h3, .ref h4, .ref h5, .int v_padLength, .ref h6, .int v_at, .int v_letter, .int v_hasUnder, .ref h7, .int v_numbersMany])), (h1, .inl (cI, 2628, .inl v_state))]) hP hD [0, 1] [] rfl rfl (by decide) (by decide) hk1 hFc ht hB [0, 1] (by decide) rfl
  clear hPc hDc hFc hk1 hB ht hz1 hvm
  refine lv_iconst (v := 1) hx hb dX7_turns_16 (by decide) ?_
  obtain ⟨q3, hq3, hd⟩ := bnd_some hd
  have Kq3 : ∀ (H : Heap) (locs : List Loc) (ls : Array Slot), va_P (dC, dI) vwCl [(h0, .inr (7, [.ref h1, .ref h2, .int v_recorded, .ref h3, .ref h4, .ref h5, .int v_padLength, .ref h6, .int v_at, .int v_letter, .int v_hasUnder, .ref h7, .int v_numbersMany])), (h1, .inl (cI, 2628, .inl v_state))] H → va_D A [(h0, .inr (7, [.ref h1, .ref h2, .int v_recorded, .ref h3, .ref h4, .ref h5, .int v_padLength, .ref h6, .int v_at, .int v_letter, .int v_hasUnder, .ref h7, .int v_numbersMany])), (h1, .inl (cI, 2628, .inl v_state))] → va_S A s.heap H locs → lv_has ls 2 [(0, .ref h0), (1, .int p1)] → W p l e rmX7_turns s m args below meth c H locs 0 0 Q (F0 m 28 ls [.int q3, .int (v_state ((164 : Int32) + p1).toNatClampNeg), .int ((164 : Int32) + p1), .ref h1]) := by
    intro H locs ls hP hD hS hl
    refine lv_iadd hx hb dX7_turns_28 ?_
    obtain ⟨g4, hd⟩ := gd_some hd
    refine x_iast (k := ((164 : Int32) + p1).toNatClampNeg) hx hb hK hP hD hS 1 0 rfl rfl (inb_in g4) rfl dX7_turns_29 (fun H locs hP hD hS => ?_)
    have hP : va_P (dC, dI) vwCl [(h0, .inr (7, [.ref h1, .ref h2, .int v_recorded, .ref h3, .ref h4, .ref h5, .int v_padLength, .ref h6, .int v_at, .int v_letter, .int v_hasUnder, .ref h7, .int v_numbersMany])), (h1, .inl (cI, 2628, .inl (upd v_state ((164 : Int32) + p1).toNatClampNeg ((v_state ((164 : Int32) + p1).toNatClampNeg) + q3))))] H := hP
    have hD : va_D A [(h0, .inr (7, [.ref h1, .ref h2, .int v_recorded, .ref h3, .ref h4, .ref h5, .int v_padLength, .ref h6, .int v_at, .int v_letter, .int v_hasUnder, .ref h7, .int v_numbersMany])), (h1, .inl (cI, 2628, .inl (upd v_state ((164 : Int32) + p1).toNatClampNeg ((v_state ((164 : Int32) + p1).toNatClampNeg) + q3))))] := hD
    refine lv_aload_n hx hb dX7_turns_30 rfl (lv_at hl 0 rfl) ?_
    refine lv_iload_n hx hb dX7_turns_31 rfl (lv_at hl 1 rfl) ?_
    obtain ⟨q5, hq5, hd⟩ := bnd_some hd
    have hPc : va_P (dC, dI) vwCl [(h0, .inr (7, [.ref h1, .ref h2, .int v_recorded, .ref h3, .ref h4, .ref h5, .int v_padLength, .ref h6, .int v_at, .int v_letter, .int v_hasUnder, .ref h7, .int v_numbersMany])), (h1, .inl (cI, 2628, .inl (upd v_state ((164 : Int32) + p1).toNatClampNeg ((v_state ((164 : Int32) + p1).toNatClampNeg) + q3))))] _ := hP.sub [0, 1] rfl
    have hDc := hD.sub (ws' := [(h0, .inr (7, [.ref h1, .ref h2, .int v_recorded, .ref h3, .ref h4, .ref h5, .int v_padLength, .ref h6, .int v_at, .int v_letter, .int v_hasUnder, .ref h7, .int v_numbersMany])), (h1, .inl (cI, 2628, .inl (upd v_state ((164 : Int32) + p1).toNatClampNeg ((v_state ((164 : Int32) + p1).toNatClampNeg) + q3))))]) [0, 1] (by decide) rfl
    have hFc := va_free (wc := [(h0, .inr (7, [.ref h1, .ref h2, .int v_recorded, .ref h3, .ref h4, .ref h5, .int v_padLength, .ref h6, .int v_at, .int v_letter, .int v_hasUnder, .ref h7, .int v_numbersMany])), (h1, .inl (cI, 2628, .inl (upd v_state ((164 : Int32) + p1).toNatClampNeg ((v_state ((164 : Int32) + p1).toNatClampNeg) + q3))))]) hD hS hA [0, 1] rfl
    refine va_calli (va_runV (As := [.int p1]) (rest := []) ⟨hx, hb, hml, hown, hts⟩ (c_X7_badness l dC dI cI cC cT h0 h1 h2 h3 h4 h5 h6 h7 H.size (upd v_state ((164 : Int32) + p1).toNatClampNeg ((v_state ((164 : Int32) + p1).toNatClampNeg) + q3)) v_recorded v_padLength v_at v_letter v_hasUnder v_numbersMany p1 q5 hq5) (cwV 1 hts gX7_turns_X7_badness rfl rfl rfl hv_X7_badness ⟨Nat.le_of_ble_eq_true rfl, Nat.le_of_ble_eq_true rfl⟩) ⟨preB_fb, va_recv hK hPc (ci := 7) (q0 := 0) rfl rfl, fun U hU hW => preB_mk hU hW hPc hK hDc hN⟩ rfl rfl hl.1 rfl (lv_room (Nat.le_of_ble_eq_true rfl)) dX7_turns_32 ⟨Nat.zero_le _, Nat.zero_le _⟩) hS (fun q _ h => hFc q h) hFc (fun r_ u_ t H locs ht hvm hw hB hz1 hk1 hS => ?_)
    have hw : r_ = q5 := hw
    have hw := hw.symm
    subst hw
    obtain ⟨hP, hD⟩ := x_join (ws' := [(h0, .inr (7, [.ref h1, .ref h2, .int v_recorded, .ref h3, .ref h4, .ref h5, .int v_padLength, .ref h6, .int v_at, .int v_letter, .int v_hasUnder, .ref h7, .int v_numbersMany])), (h1, .inl (cI, 2628, .inl (upd v_state ((164 : Int32) + p1).toNatClampNeg ((v_state ((164 : Int32) + p1).toNatClampNeg) + q3))))]) hP hD [0, 1] [] rfl rfl (by decide) (by decide) hk1 hFc ht hB [0, 1] (by decide) rfl
    clear hPc hDc hFc hk1 hB ht hz1 hvm
    cases hd
    exact hend (by rfl) hP hD hS dX7_turns_35
  replace hd := hq3
  clear hq3
  refine lv_icmp_ne (tgt := 25) hx hb dX7_turns_17 (by decide) (fun c6 => ?_) (fun c6 => ?_)
  · replace hd := ite_f c6 hd
    refine lv_sipush (v := 128) hx hb dX7_turns_25 (by decide) ?_
    cases hd
    exact Kq3 _ _ _ hP hD hS (lv_sub hl [0, 1] rfl)
  · replace hd := ite_t c6 hd
    refine lv_bipush (v := -128) hx hb dX7_turns_20 (by decide) ?_
    refine lv_goto (tgt := 28) hx hb dX7_turns_22 (by decide) ?_
    cases hd
    exact Kq3 _ _ _ hP hD hS (lv_sub hl [0, 1] rfl)
def rmX7_spoil : Room := { frames := 6, cells := 0, slots := 0, locals := 128 }
theorem hp_X7_spoil : yX7_spoil.cls ≠ "java/lang/invoke/MethodHandle" ∧ yX7_spoil.cls ≠ "java/lang/invoke/VarHandle" ∧ (parseMethodDescriptor yX7_spoil.desc).map (fun d => d.parameters.length) = some 1 := by decide +kernel
theorem hv_X7_spoil : yX7_spoil.cls = RX7 ∧ yX7_spoil.cls ≠ "java/lang/invoke/MethodHandle" ∧ yX7_spoil.cls ≠ "java/lang/invoke/VarHandle" ∧ (parseMethodDescriptor yX7_spoil.desc).map (fun d => d.parameters.length) = some 1 := by decide +kernel
set_option maxHeartbeats 4000000 in
set_option maxRecDepth 100000 in
theorem c_X7_spoil (l : Launch) (dC : Nat → ClassId) (dI : Nat → Nat → Nat) (cI cC cT : ClassId) (h0 h1 h2 h3 h4 h5 h6 h7 : Nat) (sz : Nat) (v_state : (Nat → Int32)) (v_history : (Nat → Int32)) (v_recorded : Int32) (v_padLength : Int32) (v_at : Int32) (v_letter : Int32) (v_hasUnder : Int32) (v_numbersMany : Int32) (p1 : Int32) (r : (Int32 × (Nat → Int32) × (Nat → Int32) × Int32)) (hd : den_X7_spoil v_state v_history v_recorded p1 = some r) : Met l yX7_spoil wsX7_spoil rmX7_spoil (va_Pc [.ref h0, .int p1] (preB sz (dC, dI) [(h0, .inr (7, [.ref h1, .ref h2, .int v_recorded, .ref h3, .ref h4, .ref h5, .int v_padLength, .ref h6, .int v_at, .int v_letter, .int v_hasUnder, .ref h7, .int v_numbersMany])), (h1, .inl (cI, 2628, .inl v_state)), (h2, .inl (cI, 15768, .inl v_history))] [(cI, .int), (cC, .char), (cT, .object "CassetteTones$Tape")])) (va_Qi (S := Unit) (fun v _ => v = r.1) (fun _ t => posB (dC, dI) [(h0, .inr (7, [.ref h1, .ref h2, .int r.2.2.2, .ref h3, .ref h4, .ref h5, .int v_padLength, .ref h6, .int v_at, .int v_letter, .int v_hasUnder, .ref h7, .int v_numbersMany])), (h1, .inl (cI, 2628, .inl r.2.1)), (h2, .inl (cI, 15768, .inl r.2.2.1))] [(cI, .int), (cC, .char), (cT, .object "CassetteTones$Tape")] (va_A [(h0, .inr (7, [.ref h1, .ref h2, .int v_recorded, .ref h3, .ref h4, .ref h5, .int v_padLength, .ref h6, .int v_at, .int v_letter, .int v_hasUnder, .ref h7, .int v_numbersMany])), (h1, .inl (cI, 2628, .inl v_state)), (h2, .inl (cI, 15768, .inl v_history))] sz) t) (va_A [(h0, .inr (7, [.ref h1, .ref h2, .int v_recorded, .ref h3, .ref h4, .ref h5, .int v_padLength, .ref h6, .int v_at, .int v_letter, .int v_hasUnder, .ref h7, .int v_numbersMany])), (h1, .inl (cI, 2628, .inl v_state)), (h2, .inl (cI, 15768, .inl v_history))] sz)) 0 0 (va_A [(h0, .inr (7, [.ref h1, .ref h2, .int v_recorded, .ref h3, .ref h4, .ref h5, .int v_padLength, .ref h6, .int v_at, .int v_letter, .int v_hasUnder, .ref h7, .int v_numbersMany])), (h1, .inl (cI, 2628, .inl v_state)), (h2, .inl (cI, 15768, .inl v_history))] sz) := by
  refine x_met_i (by decide) rfl (Nat.le_of_ble_eq_true rfl) ?_
  intro p e s m args below meth c A Q H locs ls hx hb hml hown hts hK hN hA hP hD hS hl hend
  have hown : s.vm.findClass RX7 = some m.cls := hown
  have hl : lv_has ls 2 [(0, .ref h0), (1, .int p1)] := hl
  unfold den_X7_spoil at hd
  refine lv_aload_n hx hb dX7_spoil_0 rfl (lv_at hl 0 rfl) ?_
  refine lv_iload_n hx hb dX7_spoil_1 rfl (lv_at hl 1 rfl) ?_
  obtain ⟨q1, hq1, hd⟩ := bnd_some hd
  have hPc : va_P (dC, dI) vwCl [(h0, .inr (7, [.ref h1, .ref h2, .int v_recorded, .ref h3, .ref h4, .ref h5, .int v_padLength, .ref h6, .int v_at, .int v_letter, .int v_hasUnder, .ref h7, .int v_numbersMany])), (h1, .inl (cI, 2628, .inl v_state))] _ := hP.sub [0, 1] rfl
  have hDc := hD.sub (ws' := [(h0, .inr (7, [.ref h1, .ref h2, .int v_recorded, .ref h3, .ref h4, .ref h5, .int v_padLength, .ref h6, .int v_at, .int v_letter, .int v_hasUnder, .ref h7, .int v_numbersMany])), (h1, .inl (cI, 2628, .inl v_state))]) [0, 1] (by decide) rfl
  have hFc := va_free (wc := [(h0, .inr (7, [.ref h1, .ref h2, .int v_recorded, .ref h3, .ref h4, .ref h5, .int v_padLength, .ref h6, .int v_at, .int v_letter, .int v_hasUnder, .ref h7, .int v_numbersMany])), (h1, .inl (cI, 2628, .inl v_state))]) hD hS hA [0, 1] rfl
  refine va_calli (va_runV (As := [.int p1]) (rest := []) ⟨hx, hb, hml, hown, hts⟩ (c_X7_isCell l dC dI cI cC cT h0 h1 h2 h3 h4 h5 h6 h7 H.size v_state v_recorded v_padLength v_at v_letter v_hasUnder v_numbersMany p1 q1 hq1) (cwV 1 hts gX7_spoil_X7_isCell rfl rfl rfl hv_X7_isCell ⟨Nat.le_of_ble_eq_true rfl, Nat.le_of_ble_eq_true rfl⟩) ⟨preB_fb, va_recv hK hPc (ci := 7) (q0 := 0) rfl rfl, fun U hU hW => preB_mk hU hW hPc hK hDc hN⟩ rfl rfl hl.1 rfl (lv_room (Nat.le_of_ble_eq_true rfl)) dX7_spoil_2 ⟨Nat.zero_le _, Nat.zero_le _⟩) hS (fun q _ h => hFc q h) hFc (fun r_ u_ t H locs ht hvm hw hB hz1 hk1 hS => ?_)
  have hw : r_ = q1 := hw
  have hw := hw.symm
  subst hw
  obtain ⟨hP, hD⟩ := x_join (ws' := [(h0, .inr (7, [.ref h1, .ref h2, .int v_recorded, .ref h3, .ref h4, .ref h5, .int v_padLength, .ref h6, .int v_at, .int v_letter, .int v_hasUnder, .ref h7, .int v_numbersMany])), (h1, .inl (cI, 2628, .inl v_state)), (h2, .inl (cI, 15768, .inl v_history))]) hP hD [0, 1] [2] rfl rfl (by decide) (by decide) hk1 hFc ht hB [1, 2, 0] (by decide) rfl
  clear hPc hDc hFc hk1 hB ht hz1 hvm
  refine lv_if_ne (tgt := 10) hx hb dX7_spoil_5 (by decide) (fun c2 => ?_) (fun c2 => ?_)
  · replace hd := ite_f c2 hd
    refine lv_aload_n hx hb dX7_spoil_10 rfl (lv_at hl 0 rfl) ?_
    obtain ⟨q3, hq3, hd⟩ := bnd_some hd
    have hPc : va_P (dC, dI) vwCl [(h0, .inr (7, [.ref h1, .ref h2, .int v_recorded, .ref h3, .ref h4, .ref h5, .int v_padLength, .ref h6, .int v_at, .int v_letter, .int v_hasUnder, .ref h7, .int v_numbersMany])), (h1, .inl (cI, 2628, .inl v_state)), (h2, .inl (cI, 15768, .inl v_history))] _ := hP.sub [0, 1, 2] rfl
    have hDc := hD.sub (ws' := [(h0, .inr (7, [.ref h1, .ref h2, .int v_recorded, .ref h3, .ref h4, .ref h5, .int v_padLength, .ref h6, .int v_at, .int v_letter, .int v_hasUnder, .ref h7, .int v_numbersMany])), (h1, .inl (cI, 2628, .inl v_state)), (h2, .inl (cI, 15768, .inl v_history))]) [0, 1, 2] (by decide) rfl
    have hFc := va_free (wc := [(h0, .inr (7, [.ref h1, .ref h2, .int v_recorded, .ref h3, .ref h4, .ref h5, .int v_padLength, .ref h6, .int v_at, .int v_letter, .int v_hasUnder, .ref h7, .int v_numbersMany])), (h1, .inl (cI, 2628, .inl v_state)), (h2, .inl (cI, 15768, .inl v_history))]) hD hS hA [0, 1, 2] rfl
    refine va_callv (va_runV (As := []) (rest := []) ⟨hx, hb, hml, hown, hts⟩ (c_X7_record l dC dI cI cC cT h0 h1 h2 h3 h4 h5 h6 h7 H.size v_state v_history v_recorded v_padLength v_at v_letter v_hasUnder v_numbersMany q3 hq3) (cwV 0 hts gX7_spoil_X7_record rfl rfl rfl hv_X7_record ⟨Nat.le_of_ble_eq_true rfl, Nat.le_of_ble_eq_true rfl⟩) ⟨preB_fb, va_recv hK hPc (ci := 7) (q0 := 0) rfl rfl, fun U hU hW => preB_mk hU hW hPc hK hDc hN⟩ rfl rfl hl.1 rfl (lv_room (Nat.le_of_ble_eq_true rfl)) dX7_spoil_11 ⟨Nat.zero_le _, Nat.zero_le _⟩) hS (fun q _ h => hFc q h) hFc (fun u_ t H locs ht hvm hw hB hz1 hk1 hS => ?_)
    obtain ⟨hP, hD⟩ := x_join (ws' := [(h0, .inr (7, [.ref h1, .ref h2, .int q3.2, .ref h3, .ref h4, .ref h5, .int v_padLength, .ref h6, .int v_at, .int v_letter, .int v_hasUnder, .ref h7, .int v_numbersMany])), (h1, .inl (cI, 2628, .inl v_state)), (h2, .inl (cI, 15768, .inl q3.1))]) hP hD [0, 1, 2] [] rfl rfl (by decide) (by decide) hk1 hFc ht hB [0, 1, 2] (by decide) rfl
    clear hPc hDc hFc hk1 hB ht hz1 hvm
    refine lv_aload_n hx hb dX7_spoil_14 rfl (lv_at hl 0 rfl) ?_
    refine lv_iload_n hx hb dX7_spoil_15 rfl (lv_at hl 1 rfl) ?_
    obtain ⟨q4, hq4, hd⟩ := bnd_some hd
    have hPc : va_P (dC, dI) vwCl [(h0, .inr (7, [.ref h1, .ref h2, .int q3.2, .ref h3, .ref h4, .ref h5, .int v_padLength, .ref h6, .int v_at, .int v_letter, .int v_hasUnder, .ref h7, .int v_numbersMany])), (h1, .inl (cI, 2628, .inl v_state))] _ := hP.sub [0, 1] rfl
    have hDc := hD.sub (ws' := [(h0, .inr (7, [.ref h1, .ref h2, .int q3.2, .ref h3, .ref h4, .ref h5, .int v_padLength, .ref h6, .int v_at, .int v_letter, .int v_hasUnder, .ref h7, .int v_numbersMany])), (h1, .inl (cI, 2628, .inl v_state))]) [0, 1] (by decide) rfl
    have hFc := va_free (wc := [(h0, .inr (7, [.ref h1, .ref h2, .int q3.2, .ref h3, .ref h4, .ref h5, .int v_padLength, .ref h6, .int v_at, .int v_letter, .int v_hasUnder, .ref h7, .int v_numbersMany])), (h1, .inl (cI, 2628, .inl v_state))]) hD hS hA [0, 1] rfl
    refine va_calli (va_runV (As := [.int p1]) (rest := []) ⟨hx, hb, hml, hown, hts⟩ (c_X7_turns l dC dI cI cC cT h0 h1 h2 h3 h4 h5 h6 h7 H.size v_state q3.2 v_padLength v_at v_letter v_hasUnder v_numbersMany p1 q4 hq4) (cwV 1 hts gX7_spoil_X7_turns rfl rfl rfl hv_X7_turns ⟨Nat.le_of_ble_eq_true rfl, Nat.le_of_ble_eq_true rfl⟩) ⟨preB_fb, va_recv hK hPc (ci := 7) (q0 := 0) rfl rfl, fun U hU hW => preB_mk hU hW hPc hK hDc hN⟩ rfl rfl hl.1 rfl (lv_room (Nat.le_of_ble_eq_true rfl)) dX7_spoil_16 ⟨Nat.zero_le _, Nat.zero_le _⟩) hS (fun q _ h => hFc q h) hFc (fun r_ u_ t H locs ht hvm hw hB hz1 hk1 hS => ?_)
    have hw : r_ = q4.1 := hw
    have hw := hw.symm
    subst hw
    obtain ⟨hP, hD⟩ := x_join (ws' := [(h0, .inr (7, [.ref h1, .ref h2, .int q3.2, .ref h3, .ref h4, .ref h5, .int v_padLength, .ref h6, .int v_at, .int v_letter, .int v_hasUnder, .ref h7, .int v_numbersMany])), (h1, .inl (cI, 2628, .inl q4.2)), (h2, .inl (cI, 15768, .inl q3.1))]) hP hD [0, 1] [2] rfl rfl (by decide) (by decide) hk1 hFc ht hB [1, 2, 0] (by decide) rfl
    clear hPc hDc hFc hk1 hB ht hz1 hvm
    cases hd
    exact hend (by rfl) hP hD hS dX7_spoil_19
  · replace hd := ite_t c2 hd
    refine lv_iconst (v := -1) hx hb dX7_spoil_8 (by decide) ?_
    cases hd
    exact hend (by rfl) hP hD hS dX7_spoil_9
def rmX7_depthOf : Room := { frames := 1, cells := 0, slots := 0, locals := 22 }
theorem hp_X7_depthOf : yX7_depthOf.cls ≠ "java/lang/invoke/MethodHandle" ∧ yX7_depthOf.cls ≠ "java/lang/invoke/VarHandle" ∧ (parseMethodDescriptor yX7_depthOf.desc).map (fun d => d.parameters.length) = some 1 := by decide +kernel
theorem hv_X7_depthOf : yX7_depthOf.cls = RX7 ∧ yX7_depthOf.cls ≠ "java/lang/invoke/MethodHandle" ∧ yX7_depthOf.cls ≠ "java/lang/invoke/VarHandle" ∧ (parseMethodDescriptor yX7_depthOf.desc).map (fun d => d.parameters.length) = some 1 := by decide +kernel
set_option maxHeartbeats 4000000 in
set_option maxRecDepth 100000 in
theorem c_X7_depthOf (l : Launch) (dC : Nat → ClassId) (dI : Nat → Nat → Nat) (cI cC cT : ClassId) (h0 h1 h2 h3 h4 h5 h6 h7 : Nat) (sz : Nat) (v_state : (Nat → Int32)) (v_recorded : Int32) (v_padLength : Int32) (v_at : Int32) (v_letter : Int32) (v_hasUnder : Int32) (v_numbersMany : Int32) (p1 : Int32) (r : Int32) (hd : den_X7_depthOf v_state p1 = some r) : Met l yX7_depthOf wsX7_depthOf rmX7_depthOf (va_Pc [.ref h0, .int p1] (preB sz (dC, dI) [(h0, .inr (7, [.ref h1, .ref h2, .int v_recorded, .ref h3, .ref h4, .ref h5, .int v_padLength, .ref h6, .int v_at, .int v_letter, .int v_hasUnder, .ref h7, .int v_numbersMany])), (h1, .inl (cI, 2628, .inl v_state))] [(cI, .int), (cC, .char), (cT, .object "CassetteTones$Tape")])) (va_Qi (S := Unit) (fun v _ => v = r) (fun _ t => posB (dC, dI) [(h0, .inr (7, [.ref h1, .ref h2, .int v_recorded, .ref h3, .ref h4, .ref h5, .int v_padLength, .ref h6, .int v_at, .int v_letter, .int v_hasUnder, .ref h7, .int v_numbersMany])), (h1, .inl (cI, 2628, .inl v_state))] [(cI, .int), (cC, .char), (cT, .object "CassetteTones$Tape")] (va_A [(h0, .inr (7, [.ref h1, .ref h2, .int v_recorded, .ref h3, .ref h4, .ref h5, .int v_padLength, .ref h6, .int v_at, .int v_letter, .int v_hasUnder, .ref h7, .int v_numbersMany])), (h1, .inl (cI, 2628, .inl v_state))] sz) t) (va_A [(h0, .inr (7, [.ref h1, .ref h2, .int v_recorded, .ref h3, .ref h4, .ref h5, .int v_padLength, .ref h6, .int v_at, .int v_letter, .int v_hasUnder, .ref h7, .int v_numbersMany])), (h1, .inl (cI, 2628, .inl v_state))] sz)) 0 0 (va_A [(h0, .inr (7, [.ref h1, .ref h2, .int v_recorded, .ref h3, .ref h4, .ref h5, .int v_padLength, .ref h6, .int v_at, .int v_letter, .int v_hasUnder, .ref h7, .int v_numbersMany])), (h1, .inl (cI, 2628, .inl v_state))] sz) := by
  refine x_met_i (by decide) rfl (Nat.le_of_ble_eq_true rfl) ?_
  intro p e s m args below meth c A Q H locs ls hx hb hml hown hts hK hN hA hP hD hS hl hend
  have hown : s.vm.findClass RX7 = some m.cls := hown
  have hl : lv_has ls 4 [(0, .ref h0), (1, .int p1)] := hl
  unfold den_X7_depthOf at hd
  refine lv_iconst (v := 0) hx hb dX7_depthOf_0 (by decide) ?_
  refine lv_istore_n (lv' := [(2, .int (0 : Int32)), (0, .ref h0), (1, .int p1)]) hx hb dX7_depthOf_1 rfl hl (by decide) rfl (fun ls hl => ?_)
  refine lv_aload_n hx hb dX7_depthOf_2 rfl (lv_at hl 1 rfl) ?_
  refine lv_iload_n hx hb dX7_depthOf_3 rfl (lv_at hl 2 rfl) ?_
  refine lv_iconst (v := 1) hx hb dX7_depthOf_4 (by decide) ?_
  obtain ⟨q1, hq1, hd⟩ := bnd_some hd
  have hPc : va_P (dC, dI) vwCl [(h0, .inr (7, [.ref h1, .ref h2, .int v_recorded, .ref h3, .ref h4, .ref h5, .int v_padLength, .ref h6, .int v_at, .int v_letter, .int v_hasUnder, .ref h7, .int v_numbersMany])), (h1, .inl (cI, 2628, .inl v_state))] _ := hP.sub [0, 1] rfl
  have hDc := hD.sub (ws' := [(h0, .inr (7, [.ref h1, .ref h2, .int v_recorded, .ref h3, .ref h4, .ref h5, .int v_padLength, .ref h6, .int v_at, .int v_letter, .int v_hasUnder, .ref h7, .int v_numbersMany])), (h1, .inl (cI, 2628, .inl v_state))]) [0, 1] (by decide) rfl
  have hFc := va_free (wc := [(h0, .inr (7, [.ref h1, .ref h2, .int v_recorded, .ref h3, .ref h4, .ref h5, .int v_padLength, .ref h6, .int v_at, .int v_letter, .int v_hasUnder, .ref h7, .int v_numbersMany])), (h1, .inl (cI, 2628, .inl v_state))]) hD hS hA [0, 1] rfl
  refine va_calli (va_runV (As := [.int p1, .int (1 : Int32)]) (rest := []) ⟨hx, hb, hml, hown, hts⟩ (c_X7_part l dC dI cI cC cT h0 h1 h2 h3 h4 h5 h6 h7 H.size v_state v_recorded v_padLength v_at v_letter v_hasUnder v_numbersMany p1 (1 : Int32) q1 hq1) (cwV 2 hts gX7_depthOf_X7_part rfl rfl rfl hv_X7_part ⟨Nat.le_of_ble_eq_true rfl, Nat.le_of_ble_eq_true rfl⟩) ⟨preB_fb, va_recv hK hPc (ci := 7) (q0 := 0) rfl rfl, fun U hU hW => preB_mk hU hW hPc hK hDc hN⟩ rfl rfl hl.1 rfl (lv_room (Nat.le_of_ble_eq_true rfl)) dX7_depthOf_5 ⟨Nat.zero_le _, Nat.zero_le _⟩) hS (fun q _ h => hFc q h) hFc (fun r_ u_ t H locs ht hvm hw hB hz1 hk1 hS => ?_)
  have hw : r_ = q1 := hw
  have hw := hw.symm
  subst hw
  obtain ⟨hP, hD⟩ := x_join (ws' := [(h0, .inr (7, [.ref h1, .ref h2, .int v_recorded, .ref h3, .ref h4, .ref h5, .int v_padLength, .ref h6, .int v_at, .int v_letter, .int v_hasUnder, .ref h7, .int v_numbersMany])), (h1, .inl (cI, 2628, .inl v_state))]) hP hD [0, 1] [] rfl rfl (by decide) (by decide) hk1 hFc ht hB [0, 1] (by decide) rfl
  clear hPc hDc hFc hk1 hB ht hz1 hvm
  refine lv_istore_n (lv' := [(3, .int q1), (2, .int (0 : Int32)), (0, .ref h0), (1, .int p1)]) hx hb dX7_depthOf_8 rfl hl (by decide) rfl (fun ls hl => ?_)
  obtain ⟨q2, hq2, hd⟩ := bnd_some hd
  have Kq2 : ∀ (H : Heap) (locs : List Loc) (ls : Array Slot), va_P (dC, dI) vwCl [(h0, .inr (7, [.ref h1, .ref h2, .int v_recorded, .ref h3, .ref h4, .ref h5, .int v_padLength, .ref h6, .int v_at, .int v_letter, .int v_hasUnder, .ref h7, .int v_numbersMany])), (h1, .inl (cI, 2628, .inl v_state))] H → va_D A [(h0, .inr (7, [.ref h1, .ref h2, .int v_recorded, .ref h3, .ref h4, .ref h5, .int v_padLength, .ref h6, .int v_at, .int v_letter, .int v_hasUnder, .ref h7, .int v_numbersMany])), (h1, .inl (cI, 2628, .inl v_state))] → va_S A s.heap H locs → lv_has ls 4 [(2, .int q2)] → W p l e rmX7_depthOf s m args below meth c H locs 0 0 Q (F0 m 28 ls []) := by
    intro H locs ls hP hD hS hl
    refine lv_iload_n hx hb dX7_depthOf_28 rfl (lv_at hl 0 rfl) ?_
    cases hd
    exact hend (by rfl) hP hD hS dX7_depthOf_29
  clear hd
  have KL5 : ∀ (fu : Nat) (y2_9 : Int32) (y3_9 : Int32) (hd : den_X7_depthOf_L9 v_state fu y2_9 y3_9 = some q2) (H : Heap) (locs : List Loc) (ls : Array Slot), va_P (dC, dI) vwCl [(h0, .inr (7, [.ref h1, .ref h2, .int v_recorded, .ref h3, .ref h4, .ref h5, .int v_padLength, .ref h6, .int v_at, .int v_letter, .int v_hasUnder, .ref h7, .int v_numbersMany])), (h1, .inl (cI, 2628, .inl v_state))] H → va_D A [(h0, .inr (7, [.ref h1, .ref h2, .int v_recorded, .ref h3, .ref h4, .ref h5, .int v_padLength, .ref h6, .int v_at, .int v_letter, .int v_hasUnder, .ref h7, .int v_numbersMany])), (h1, .inl (cI, 2628, .inl v_state))] → va_S A s.heap H locs → lv_has ls 4 [(0, .ref h0), (2, .int y2_9), (3, .int y3_9)] → W p l e rmX7_depthOf s m args below meth c H locs 0 0 Q (F0 m 9 ls []) := by
    intro fu
    induction fu with
    | zero => intro y2_9 y3_9 hd; exact no_some hd
    | succ fu ih =>
      intro y2_9 y3_9 hd H locs ls hP hD hS hl
      rw [den_X7_depthOf_L9] at hd
      refine lv_iload_n hx hb dX7_depthOf_9 rfl (lv_at hl 2 rfl) ?_
      refine lv_bipush (v := -6) hx hb dX7_depthOf_10 (by decide) ?_
      refine lv_icmp_eq (tgt := 28) hx hb dX7_depthOf_12 (by decide) (fun c3 => ?_) (fun c3 => ?_)
      · replace hd := ite_t c3 hd
        cases hd
        exact Kq2 _ _ _ hP hD hS (lv_sub hl [1] rfl)
      · replace hd := ite_f c3 hd
        refine lv_iinc (v := (y2_9 + (1 : Int32))) (lv' := [(2, .int (y2_9 + (1 : Int32))), (0, .ref h0), (3, .int y3_9)]) hx hb dX7_depthOf_15 hl (k := 1) rfl (by first | rfl | decide) (by decide) rfl (fun ls hl => ?_)
        refine lv_aload_n hx hb dX7_depthOf_18 rfl (lv_at hl 1 rfl) ?_
        refine lv_iload_n hx hb dX7_depthOf_19 rfl (lv_at hl 2 rfl) ?_
        refine lv_iconst (v := 1) hx hb dX7_depthOf_20 (by decide) ?_
        obtain ⟨q4, hq4, hd⟩ := bnd_some hd
        have hPc : va_P (dC, dI) vwCl [(h0, .inr (7, [.ref h1, .ref h2, .int v_recorded, .ref h3, .ref h4, .ref h5, .int v_padLength, .ref h6, .int v_at, .int v_letter, .int v_hasUnder, .ref h7, .int v_numbersMany])), (h1, .inl (cI, 2628, .inl v_state))] _ := hP.sub [0, 1] rfl
        have hDc := hD.sub (ws' := [(h0, .inr (7, [.ref h1, .ref h2, .int v_recorded, .ref h3, .ref h4, .ref h5, .int v_padLength, .ref h6, .int v_at, .int v_letter, .int v_hasUnder, .ref h7, .int v_numbersMany])), (h1, .inl (cI, 2628, .inl v_state))]) [0, 1] (by decide) rfl
        have hFc := va_free (wc := [(h0, .inr (7, [.ref h1, .ref h2, .int v_recorded, .ref h3, .ref h4, .ref h5, .int v_padLength, .ref h6, .int v_at, .int v_letter, .int v_hasUnder, .ref h7, .int v_numbersMany])), (h1, .inl (cI, 2628, .inl v_state))]) hD hS hA [0, 1] rfl
        refine va_calli (va_runV (As := [.int y3_9, .int (1 : Int32)]) (rest := []) ⟨hx, hb, hml, hown, hts⟩ (c_X7_part l dC dI cI cC cT h0 h1 h2 h3 h4 h5 h6 h7 H.size v_state v_recorded v_padLength v_at v_letter v_hasUnder v_numbersMany y3_9 (1 : Int32) q4 hq4) (cwV 2 hts gX7_depthOf_X7_part rfl rfl rfl hv_X7_part ⟨Nat.le_of_ble_eq_true rfl, Nat.le_of_ble_eq_true rfl⟩) ⟨preB_fb, va_recv hK hPc (ci := 7) (q0 := 0) rfl rfl, fun U hU hW => preB_mk hU hW hPc hK hDc hN⟩ rfl rfl hl.1 rfl (lv_room (Nat.le_of_ble_eq_true rfl)) dX7_depthOf_21 ⟨Nat.zero_le _, Nat.zero_le _⟩) hS (fun q _ h => hFc q h) hFc (fun r_ u_ t H locs ht hvm hw hB hz1 hk1 hS => ?_)
        have hw : r_ = q4 := hw
        have hw := hw.symm
        subst hw
        obtain ⟨hP, hD⟩ := x_join (ws' := [(h0, .inr (7, [.ref h1, .ref h2, .int v_recorded, .ref h3, .ref h4, .ref h5, .int v_padLength, .ref h6, .int v_at, .int v_letter, .int v_hasUnder, .ref h7, .int v_numbersMany])), (h1, .inl (cI, 2628, .inl v_state))]) hP hD [0, 1] [] rfl rfl (by decide) (by decide) hk1 hFc ht hB [0, 1] (by decide) rfl
        clear hPc hDc hFc hk1 hB ht hz1 hvm
        refine lv_istore_n (lv' := [(3, .int q4), (2, .int (y2_9 + (1 : Int32))), (0, .ref h0)]) hx hb dX7_depthOf_24 rfl hl (by decide) rfl (fun ls hl => ?_)
        refine lv_goto (tgt := 9) hx hb dX7_depthOf_25 (by decide) ?_
        exact ih (y2_9 + (1 : Int32)) q4 hd _ _ _ hP hD hS (lv_sub hl [2, 1, 0] rfl)
  exact KL5 FU (0 : Int32) q1 hq2 _ _ _ hP hD hS (lv_sub hl [2, 1, 0] rfl)
def rmX7_of : Room := { frames := 8, cells := 0, slots := 0, locals := 189 }
theorem hp_X7_of : yX7_of.cls ≠ "java/lang/invoke/MethodHandle" ∧ yX7_of.cls ≠ "java/lang/invoke/VarHandle" ∧ (parseMethodDescriptor yX7_of.desc).map (fun d => d.parameters.length) = some 2 := by decide +kernel
theorem hv_X7_of : yX7_of.cls = RX7 ∧ yX7_of.cls ≠ "java/lang/invoke/MethodHandle" ∧ yX7_of.cls ≠ "java/lang/invoke/VarHandle" ∧ (parseMethodDescriptor yX7_of.desc).map (fun d => d.parameters.length) = some 2 := by decide +kernel
set_option maxHeartbeats 4000000 in
set_option maxRecDepth 100000 in
theorem c_X7_of (l : Launch) (dC : Nat → ClassId) (dI : Nat → Nat → Nat) (cI cC cT : ClassId) (h0 h1 h2 h3 h4 h5 h6 h7 : Nat) (sz : Nat) (v_state : (Nat → Int32)) (v_recorded : Int32) (v_padLength : Int32) (v_found : (Nat → Int32)) (v_at : Int32) (v_letter : Int32) (v_hasUnder : Int32) (v_numbersMany : Int32) (p1 : Int32) (p2 : Int32) (r : (Int32 × (Nat → Int32))) (hd : den_X7_of v_state v_found p1 p2 = some r) : Met l yX7_of wsX7_of rmX7_of (va_Pc [.ref h0, .int p1, .int p2] (preB sz (dC, dI) [(h0, .inr (7, [.ref h1, .ref h2, .int v_recorded, .ref h3, .ref h4, .ref h5, .int v_padLength, .ref h6, .int v_at, .int v_letter, .int v_hasUnder, .ref h7, .int v_numbersMany])), (h1, .inl (cI, 2628, .inl v_state)), (h6, .inl (cI, 7, .inl v_found))] [(cI, .int), (cC, .char), (cT, .object "CassetteTones$Tape")])) (va_Qi (S := Unit) (fun v _ => v = r.1) (fun _ t => posB (dC, dI) [(h0, .inr (7, [.ref h1, .ref h2, .int v_recorded, .ref h3, .ref h4, .ref h5, .int v_padLength, .ref h6, .int v_at, .int v_letter, .int v_hasUnder, .ref h7, .int v_numbersMany])), (h1, .inl (cI, 2628, .inl v_state)), (h6, .inl (cI, 7, .inl r.2))] [(cI, .int), (cC, .char), (cT, .object "CassetteTones$Tape")] (va_A [(h0, .inr (7, [.ref h1, .ref h2, .int v_recorded, .ref h3, .ref h4, .ref h5, .int v_padLength, .ref h6, .int v_at, .int v_letter, .int v_hasUnder, .ref h7, .int v_numbersMany])), (h1, .inl (cI, 2628, .inl v_state)), (h6, .inl (cI, 7, .inl v_found))] sz) t) (va_A [(h0, .inr (7, [.ref h1, .ref h2, .int v_recorded, .ref h3, .ref h4, .ref h5, .int v_padLength, .ref h6, .int v_at, .int v_letter, .int v_hasUnder, .ref h7, .int v_numbersMany])), (h1, .inl (cI, 2628, .inl v_state)), (h6, .inl (cI, 7, .inl v_found))] sz)) 0 0 (va_A [(h0, .inr (7, [.ref h1, .ref h2, .int v_recorded, .ref h3, .ref h4, .ref h5, .int v_padLength, .ref h6, .int v_at, .int v_letter, .int v_hasUnder, .ref h7, .int v_numbersMany])), (h1, .inl (cI, 2628, .inl v_state)), (h6, .inl (cI, 7, .inl v_found))] sz) := by
  refine x_met_i (by decide) rfl (Nat.le_of_ble_eq_true rfl) ?_
  intro p e s m args below meth c A Q H locs ls hx hb hml hown hts hK hN hA hP hD hS hl hend
  have hown : s.vm.findClass RX7 = some m.cls := hown
  have hl : lv_has ls 3 [(0, .ref h0), (1, .int p1), (2, .int p2)] := hl
  unfold den_X7_of at hd
  refine lv_aload_n hx hb dX7_of_0 rfl (lv_at hl 0 rfl) ?_
  refine lv_iload_n hx hb dX7_of_1 rfl (lv_at hl 1 rfl) ?_
  obtain ⟨q1, hq1, hd⟩ := bnd_some hd
  have hPc : va_P (dC, dI) vwCl [(h0, .inr (7, [.ref h1, .ref h2, .int v_recorded, .ref h3, .ref h4, .ref h5, .int v_padLength, .ref h6, .int v_at, .int v_letter, .int v_hasUnder, .ref h7, .int v_numbersMany])), (h1, .inl (cI, 2628, .inl v_state))] _ := hP.sub [0, 1] rfl
  have hDc := hD.sub (ws' := [(h0, .inr (7, [.ref h1, .ref h2, .int v_recorded, .ref h3, .ref h4, .ref h5, .int v_padLength, .ref h6, .int v_at, .int v_letter, .int v_hasUnder, .ref h7, .int v_numbersMany])), (h1, .inl (cI, 2628, .inl v_state))]) [0, 1] (by decide) rfl
  have hFc := va_free (wc := [(h0, .inr (7, [.ref h1, .ref h2, .int v_recorded, .ref h3, .ref h4, .ref h5, .int v_padLength, .ref h6, .int v_at, .int v_letter, .int v_hasUnder, .ref h7, .int v_numbersMany])), (h1, .inl (cI, 2628, .inl v_state))]) hD hS hA [0, 1] rfl
  refine va_calli (va_runV (As := [.int p1]) (rest := []) ⟨hx, hb, hml, hown, hts⟩ (c_X7_isBlock l dC dI cI cC cT h0 h1 h2 h3 h4 h5 h6 h7 H.size v_state v_recorded v_padLength v_at v_letter v_hasUnder v_numbersMany p1 q1 hq1) (cwV 1 hts gX7_of_X7_isBlock rfl rfl rfl hv_X7_isBlock ⟨Nat.le_of_ble_eq_true rfl, Nat.le_of_ble_eq_true rfl⟩) ⟨preB_fb, va_recv hK hPc (ci := 7) (q0 := 0) rfl rfl, fun U hU hW => preB_mk hU hW hPc hK hDc hN⟩ rfl rfl hl.1 rfl (lv_room (Nat.le_of_ble_eq_true rfl)) dX7_of_2 ⟨Nat.zero_le _, Nat.zero_le _⟩) hS (fun q _ h => hFc q h) hFc (fun r_ u_ t H locs ht hvm hw hB hz1 hk1 hS => ?_)
  have hw : r_ = q1 := hw
  have hw := hw.symm
  subst hw
  obtain ⟨hP, hD⟩ := x_join (ws' := [(h0, .inr (7, [.ref h1, .ref h2, .int v_recorded, .ref h3, .ref h4, .ref h5, .int v_padLength, .ref h6, .int v_at, .int v_letter, .int v_hasUnder, .ref h7, .int v_numbersMany])), (h1, .inl (cI, 2628, .inl v_state)), (h6, .inl (cI, 7, .inl v_found))]) hP hD [0, 1] [2] rfl rfl (by decide) (by decide) hk1 hFc ht hB [1, 2, 0] (by decide) rfl
  clear hPc hDc hFc hk1 hB ht hz1 hvm
  refine lv_if_ne (tgt := 10) hx hb dX7_of_5 (by decide) (fun c2 => ?_) (fun c2 => ?_)
  · replace hd := ite_f c2 hd
    refine lv_iload_n hx hb dX7_of_10 rfl (lv_at hl 2 rfl) ?_
    by_cases c3 : p2 = (0 : Int32)
    · replace hd := ite_t c3 hd
      refine lv_tableIn (off := 53) (tgt := 64) hx hb dX7_of_11 (by rw [c3]; decide) (by rw [c3]; decide) (by rw [c3]; rfl) (by decide) ?_
      refine lv_aload_n hx hb dX7_of_64 rfl (lv_at hl 0 rfl) ?_
      refine lv_iload_n hx hb dX7_of_65 rfl (lv_at hl 1 rfl) ?_
      refine lv_iload_n hx hb dX7_of_66 rfl (lv_at hl 2 rfl) ?_
      obtain ⟨q4, hq4, hd⟩ := bnd_some hd
      have hPc : va_P (dC, dI) vwCl [(h0, .inr (7, [.ref h1, .ref h2, .int v_recorded, .ref h3, .ref h4, .ref h5, .int v_padLength, .ref h6, .int v_at, .int v_letter, .int v_hasUnder, .ref h7, .int v_numbersMany])), (h1, .inl (cI, 2628, .inl v_state))] _ := hP.sub [0, 1] rfl
      have hDc := hD.sub (ws' := [(h0, .inr (7, [.ref h1, .ref h2, .int v_recorded, .ref h3, .ref h4, .ref h5, .int v_padLength, .ref h6, .int v_at, .int v_letter, .int v_hasUnder, .ref h7, .int v_numbersMany])), (h1, .inl (cI, 2628, .inl v_state))]) [0, 1] (by decide) rfl
      have hFc := va_free (wc := [(h0, .inr (7, [.ref h1, .ref h2, .int v_recorded, .ref h3, .ref h4, .ref h5, .int v_padLength, .ref h6, .int v_at, .int v_letter, .int v_hasUnder, .ref h7, .int v_numbersMany])), (h1, .inl (cI, 2628, .inl v_state))]) hD hS hA [0, 1] rfl
      refine va_calli (va_runV (As := [.int p1, .int p2]) (rest := []) ⟨hx, hb, hml, hown, hts⟩ (c_X7_part l dC dI cI cC cT h0 h1 h2 h3 h4 h5 h6 h7 H.size v_state v_recorded v_padLength v_at v_letter v_hasUnder v_numbersMany p1 p2 q4 hq4) (cwV 2 hts gX7_of_X7_part rfl rfl rfl hv_X7_part ⟨Nat.le_of_ble_eq_true rfl, Nat.le_of_ble_eq_true rfl⟩) ⟨preB_fb, va_recv hK hPc (ci := 7) (q0 := 0) rfl rfl, fun U hU hW => preB_mk hU hW hPc hK hDc hN⟩ rfl rfl hl.1 rfl (lv_room (Nat.le_of_ble_eq_true rfl)) dX7_of_67 ⟨Nat.zero_le _, Nat.zero_le _⟩) hS (fun q _ h => hFc q h) hFc (fun r_ u_ t H locs ht hvm hw hB hz1 hk1 hS => ?_)
      have hw : r_ = q4 := hw
      have hw := hw.symm
      subst hw
      obtain ⟨hP, hD⟩ := x_join (ws' := [(h0, .inr (7, [.ref h1, .ref h2, .int v_recorded, .ref h3, .ref h4, .ref h5, .int v_padLength, .ref h6, .int v_at, .int v_letter, .int v_hasUnder, .ref h7, .int v_numbersMany])), (h1, .inl (cI, 2628, .inl v_state)), (h6, .inl (cI, 7, .inl v_found))]) hP hD [0, 1] [2] rfl rfl (by decide) (by decide) hk1 hFc ht hB [1, 2, 0] (by decide) rfl
      clear hPc hDc hFc hk1 hB ht hz1 hvm
      cases hd
      exact hend (by rfl) hP hD hS dX7_of_70
    · replace hd := ite_f c3 hd
      by_cases c5 : p2 = (1 : Int32)
      · replace hd := ite_t c5 hd
        refine lv_tableIn (off := 53) (tgt := 64) hx hb dX7_of_11 (by rw [c5]; decide) (by rw [c5]; decide) (by rw [c5]; rfl) (by decide) ?_
        refine lv_aload_n hx hb dX7_of_64 rfl (lv_at hl 0 rfl) ?_
        refine lv_iload_n hx hb dX7_of_65 rfl (lv_at hl 1 rfl) ?_
        refine lv_iload_n hx hb dX7_of_66 rfl (lv_at hl 2 rfl) ?_
        obtain ⟨q6, hq6, hd⟩ := bnd_some hd
        have hPc : va_P (dC, dI) vwCl [(h0, .inr (7, [.ref h1, .ref h2, .int v_recorded, .ref h3, .ref h4, .ref h5, .int v_padLength, .ref h6, .int v_at, .int v_letter, .int v_hasUnder, .ref h7, .int v_numbersMany])), (h1, .inl (cI, 2628, .inl v_state))] _ := hP.sub [0, 1] rfl
        have hDc := hD.sub (ws' := [(h0, .inr (7, [.ref h1, .ref h2, .int v_recorded, .ref h3, .ref h4, .ref h5, .int v_padLength, .ref h6, .int v_at, .int v_letter, .int v_hasUnder, .ref h7, .int v_numbersMany])), (h1, .inl (cI, 2628, .inl v_state))]) [0, 1] (by decide) rfl
        have hFc := va_free (wc := [(h0, .inr (7, [.ref h1, .ref h2, .int v_recorded, .ref h3, .ref h4, .ref h5, .int v_padLength, .ref h6, .int v_at, .int v_letter, .int v_hasUnder, .ref h7, .int v_numbersMany])), (h1, .inl (cI, 2628, .inl v_state))]) hD hS hA [0, 1] rfl
        refine va_calli (va_runV (As := [.int p1, .int p2]) (rest := []) ⟨hx, hb, hml, hown, hts⟩ (c_X7_part l dC dI cI cC cT h0 h1 h2 h3 h4 h5 h6 h7 H.size v_state v_recorded v_padLength v_at v_letter v_hasUnder v_numbersMany p1 p2 q6 hq6) (cwV 2 hts gX7_of_X7_part rfl rfl rfl hv_X7_part ⟨Nat.le_of_ble_eq_true rfl, Nat.le_of_ble_eq_true rfl⟩) ⟨preB_fb, va_recv hK hPc (ci := 7) (q0 := 0) rfl rfl, fun U hU hW => preB_mk hU hW hPc hK hDc hN⟩ rfl rfl hl.1 rfl (lv_room (Nat.le_of_ble_eq_true rfl)) dX7_of_67 ⟨Nat.zero_le _, Nat.zero_le _⟩) hS (fun q _ h => hFc q h) hFc (fun r_ u_ t H locs ht hvm hw hB hz1 hk1 hS => ?_)
        have hw : r_ = q6 := hw
        have hw := hw.symm
        subst hw
        obtain ⟨hP, hD⟩ := x_join (ws' := [(h0, .inr (7, [.ref h1, .ref h2, .int v_recorded, .ref h3, .ref h4, .ref h5, .int v_padLength, .ref h6, .int v_at, .int v_letter, .int v_hasUnder, .ref h7, .int v_numbersMany])), (h1, .inl (cI, 2628, .inl v_state)), (h6, .inl (cI, 7, .inl v_found))]) hP hD [0, 1] [2] rfl rfl (by decide) (by decide) hk1 hFc ht hB [1, 2, 0] (by decide) rfl
        clear hPc hDc hFc hk1 hB ht hz1 hvm
        cases hd
        exact hend (by rfl) hP hD hS dX7_of_70
      · replace hd := ite_f c5 hd
        by_cases c7 : p2 = (2 : Int32)
        · replace hd := ite_t c7 hd
          refine lv_tableIn (off := 53) (tgt := 64) hx hb dX7_of_11 (by rw [c7]; decide) (by rw [c7]; decide) (by rw [c7]; rfl) (by decide) ?_
          refine lv_aload_n hx hb dX7_of_64 rfl (lv_at hl 0 rfl) ?_
          refine lv_iload_n hx hb dX7_of_65 rfl (lv_at hl 1 rfl) ?_
          refine lv_iload_n hx hb dX7_of_66 rfl (lv_at hl 2 rfl) ?_
          obtain ⟨q8, hq8, hd⟩ := bnd_some hd
          have hPc : va_P (dC, dI) vwCl [(h0, .inr (7, [.ref h1, .ref h2, .int v_recorded, .ref h3, .ref h4, .ref h5, .int v_padLength, .ref h6, .int v_at, .int v_letter, .int v_hasUnder, .ref h7, .int v_numbersMany])), (h1, .inl (cI, 2628, .inl v_state))] _ := hP.sub [0, 1] rfl
          have hDc := hD.sub (ws' := [(h0, .inr (7, [.ref h1, .ref h2, .int v_recorded, .ref h3, .ref h4, .ref h5, .int v_padLength, .ref h6, .int v_at, .int v_letter, .int v_hasUnder, .ref h7, .int v_numbersMany])), (h1, .inl (cI, 2628, .inl v_state))]) [0, 1] (by decide) rfl
          have hFc := va_free (wc := [(h0, .inr (7, [.ref h1, .ref h2, .int v_recorded, .ref h3, .ref h4, .ref h5, .int v_padLength, .ref h6, .int v_at, .int v_letter, .int v_hasUnder, .ref h7, .int v_numbersMany])), (h1, .inl (cI, 2628, .inl v_state))]) hD hS hA [0, 1] rfl
          refine va_calli (va_runV (As := [.int p1, .int p2]) (rest := []) ⟨hx, hb, hml, hown, hts⟩ (c_X7_part l dC dI cI cC cT h0 h1 h2 h3 h4 h5 h6 h7 H.size v_state v_recorded v_padLength v_at v_letter v_hasUnder v_numbersMany p1 p2 q8 hq8) (cwV 2 hts gX7_of_X7_part rfl rfl rfl hv_X7_part ⟨Nat.le_of_ble_eq_true rfl, Nat.le_of_ble_eq_true rfl⟩) ⟨preB_fb, va_recv hK hPc (ci := 7) (q0 := 0) rfl rfl, fun U hU hW => preB_mk hU hW hPc hK hDc hN⟩ rfl rfl hl.1 rfl (lv_room (Nat.le_of_ble_eq_true rfl)) dX7_of_67 ⟨Nat.zero_le _, Nat.zero_le _⟩) hS (fun q _ h => hFc q h) hFc (fun r_ u_ t H locs ht hvm hw hB hz1 hk1 hS => ?_)
          have hw : r_ = q8 := hw
          have hw := hw.symm
          subst hw
          obtain ⟨hP, hD⟩ := x_join (ws' := [(h0, .inr (7, [.ref h1, .ref h2, .int v_recorded, .ref h3, .ref h4, .ref h5, .int v_padLength, .ref h6, .int v_at, .int v_letter, .int v_hasUnder, .ref h7, .int v_numbersMany])), (h1, .inl (cI, 2628, .inl v_state)), (h6, .inl (cI, 7, .inl v_found))]) hP hD [0, 1] [2] rfl rfl (by decide) (by decide) hk1 hFc ht hB [1, 2, 0] (by decide) rfl
          clear hPc hDc hFc hk1 hB ht hz1 hvm
          cases hd
          exact hend (by rfl) hP hD hS dX7_of_70
        · replace hd := ite_f c7 hd
          by_cases c9 : p2 = (3 : Int32)
          · replace hd := ite_t c9 hd
            refine lv_tableIn (off := 60) (tgt := 71) hx hb dX7_of_11 (by rw [c9]; decide) (by rw [c9]; decide) (by rw [c9]; rfl) (by decide) ?_
            refine lv_aload_n hx hb dX7_of_71 rfl (lv_at hl 0 rfl) ?_
            refine lv_iload_n hx hb dX7_of_72 rfl (lv_at hl 1 rfl) ?_
            obtain ⟨q10, hq10, hd⟩ := bnd_some hd
            have hPc : va_P (dC, dI) vwCl [(h0, .inr (7, [.ref h1, .ref h2, .int v_recorded, .ref h3, .ref h4, .ref h5, .int v_padLength, .ref h6, .int v_at, .int v_letter, .int v_hasUnder, .ref h7, .int v_numbersMany])), (h1, .inl (cI, 2628, .inl v_state))] _ := hP.sub [0, 1] rfl
            have hDc := hD.sub (ws' := [(h0, .inr (7, [.ref h1, .ref h2, .int v_recorded, .ref h3, .ref h4, .ref h5, .int v_padLength, .ref h6, .int v_at, .int v_letter, .int v_hasUnder, .ref h7, .int v_numbersMany])), (h1, .inl (cI, 2628, .inl v_state))]) [0, 1] (by decide) rfl
            have hFc := va_free (wc := [(h0, .inr (7, [.ref h1, .ref h2, .int v_recorded, .ref h3, .ref h4, .ref h5, .int v_padLength, .ref h6, .int v_at, .int v_letter, .int v_hasUnder, .ref h7, .int v_numbersMany])), (h1, .inl (cI, 2628, .inl v_state))]) hD hS hA [0, 1] rfl
            refine va_calli (va_runV (As := [.int p1]) (rest := []) ⟨hx, hb, hml, hown, hts⟩ (c_X7_firstOf l dC dI cI cC cT h0 h1 h2 h3 h4 h5 h6 h7 H.size v_state v_recorded v_padLength v_at v_letter v_hasUnder v_numbersMany p1 q10 hq10) (cwV 1 hts gX7_of_X7_firstOf rfl rfl rfl hv_X7_firstOf ⟨Nat.le_of_ble_eq_true rfl, Nat.le_of_ble_eq_true rfl⟩) ⟨preB_fb, va_recv hK hPc (ci := 7) (q0 := 0) rfl rfl, fun U hU hW => preB_mk hU hW hPc hK hDc hN⟩ rfl rfl hl.1 rfl (lv_room (Nat.le_of_ble_eq_true rfl)) dX7_of_73 ⟨Nat.zero_le _, Nat.zero_le _⟩) hS (fun q _ h => hFc q h) hFc (fun r_ u_ t H locs ht hvm hw hB hz1 hk1 hS => ?_)
            have hw : r_ = q10 := hw
            have hw := hw.symm
            subst hw
            obtain ⟨hP, hD⟩ := x_join (ws' := [(h0, .inr (7, [.ref h1, .ref h2, .int v_recorded, .ref h3, .ref h4, .ref h5, .int v_padLength, .ref h6, .int v_at, .int v_letter, .int v_hasUnder, .ref h7, .int v_numbersMany])), (h1, .inl (cI, 2628, .inl v_state)), (h6, .inl (cI, 7, .inl v_found))]) hP hD [0, 1] [2] rfl rfl (by decide) (by decide) hk1 hFc ht hB [1, 2, 0] (by decide) rfl
            clear hPc hDc hFc hk1 hB ht hz1 hvm
            cases hd
            exact hend (by rfl) hP hD hS dX7_of_76
          · replace hd := ite_f c9 hd
            by_cases c11 : p2 = (4 : Int32)
            · replace hd := ite_t c11 hd
              refine lv_tableIn (off := 66) (tgt := 77) hx hb dX7_of_11 (by rw [c11]; decide) (by rw [c11]; decide) (by rw [c11]; rfl) (by decide) ?_
              refine lv_aload_n hx hb dX7_of_77 rfl (lv_at hl 0 rfl) ?_
              refine lv_iload_n hx hb dX7_of_78 rfl (lv_at hl 1 rfl) ?_
              obtain ⟨q12, hq12, hd⟩ := bnd_some hd
              have hPc : va_P (dC, dI) vwCl [(h0, .inr (7, [.ref h1, .ref h2, .int v_recorded, .ref h3, .ref h4, .ref h5, .int v_padLength, .ref h6, .int v_at, .int v_letter, .int v_hasUnder, .ref h7, .int v_numbersMany])), (h1, .inl (cI, 2628, .inl v_state))] _ := hP.sub [0, 1] rfl
              have hDc := hD.sub (ws' := [(h0, .inr (7, [.ref h1, .ref h2, .int v_recorded, .ref h3, .ref h4, .ref h5, .int v_padLength, .ref h6, .int v_at, .int v_letter, .int v_hasUnder, .ref h7, .int v_numbersMany])), (h1, .inl (cI, 2628, .inl v_state))]) [0, 1] (by decide) rfl
              have hFc := va_free (wc := [(h0, .inr (7, [.ref h1, .ref h2, .int v_recorded, .ref h3, .ref h4, .ref h5, .int v_padLength, .ref h6, .int v_at, .int v_letter, .int v_hasUnder, .ref h7, .int v_numbersMany])), (h1, .inl (cI, 2628, .inl v_state))]) hD hS hA [0, 1] rfl
              refine va_calli (va_runV (As := [.int p1]) (rest := []) ⟨hx, hb, hml, hown, hts⟩ (c_X7_cellsOf l dC dI cI cC cT h0 h1 h2 h3 h4 h5 h6 h7 H.size v_state v_recorded v_padLength v_at v_letter v_hasUnder v_numbersMany p1 q12 hq12) (cwV 1 hts gX7_of_X7_cellsOf rfl rfl rfl hv_X7_cellsOf ⟨Nat.le_of_ble_eq_true rfl, Nat.le_of_ble_eq_true rfl⟩) ⟨preB_fb, va_recv hK hPc (ci := 7) (q0 := 0) rfl rfl, fun U hU hW => preB_mk hU hW hPc hK hDc hN⟩ rfl rfl hl.1 rfl (lv_room (Nat.le_of_ble_eq_true rfl)) dX7_of_79 ⟨Nat.zero_le _, Nat.zero_le _⟩) hS (fun q _ h => hFc q h) hFc (fun r_ u_ t H locs ht hvm hw hB hz1 hk1 hS => ?_)
              have hw : r_ = q12 := hw
              have hw := hw.symm
              subst hw
              obtain ⟨hP, hD⟩ := x_join (ws' := [(h0, .inr (7, [.ref h1, .ref h2, .int v_recorded, .ref h3, .ref h4, .ref h5, .int v_padLength, .ref h6, .int v_at, .int v_letter, .int v_hasUnder, .ref h7, .int v_numbersMany])), (h1, .inl (cI, 2628, .inl v_state)), (h6, .inl (cI, 7, .inl v_found))]) hP hD [0, 1] [2] rfl rfl (by decide) (by decide) hk1 hFc ht hB [1, 2, 0] (by decide) rfl
              clear hPc hDc hFc hk1 hB ht hz1 hvm
              cases hd
              exact hend (by rfl) hP hD hS dX7_of_82
            · replace hd := ite_f c11 hd
              by_cases c13 : p2 = (5 : Int32)
              · replace hd := ite_t c13 hd
                refine lv_tableIn (off := 72) (tgt := 83) hx hb dX7_of_11 (by rw [c13]; decide) (by rw [c13]; decide) (by rw [c13]; rfl) (by decide) ?_
                refine lv_aload_n hx hb dX7_of_83 rfl (lv_at hl 0 rfl) ?_
                refine lv_iload_n hx hb dX7_of_84 rfl (lv_at hl 1 rfl) ?_
                refine lv_iload_n hx hb dX7_of_85 rfl (lv_at hl 2 rfl) ?_
                refine lv_iconst (v := 5) hx hb dX7_of_86 (by decide) ?_
                refine lv_isub hx hb dX7_of_87 ?_
                obtain ⟨q14, hq14, hd⟩ := bnd_some hd
                have hPc : va_P (dC, dI) vwCl [(h0, .inr (7, [.ref h1, .ref h2, .int v_recorded, .ref h3, .ref h4, .ref h5, .int v_padLength, .ref h6, .int v_at, .int v_letter, .int v_hasUnder, .ref h7, .int v_numbersMany])), (h1, .inl (cI, 2628, .inl v_state))] _ := hP.sub [0, 1] rfl
                have hDc := hD.sub (ws' := [(h0, .inr (7, [.ref h1, .ref h2, .int v_recorded, .ref h3, .ref h4, .ref h5, .int v_padLength, .ref h6, .int v_at, .int v_letter, .int v_hasUnder, .ref h7, .int v_numbersMany])), (h1, .inl (cI, 2628, .inl v_state))]) [0, 1] (by decide) rfl
                have hFc := va_free (wc := [(h0, .inr (7, [.ref h1, .ref h2, .int v_recorded, .ref h3, .ref h4, .ref h5, .int v_padLength, .ref h6, .int v_at, .int v_letter, .int v_hasUnder, .ref h7, .int v_numbersMany])), (h1, .inl (cI, 2628, .inl v_state))]) hD hS hA [0, 1] rfl
                refine va_calli (va_runV (As := [.int p1, .int (p2 - (5 : Int32))]) (rest := []) ⟨hx, hb, hml, hown, hts⟩ (c_X7_howIs l dC dI cI cC cT h0 h1 h2 h3 h4 h5 h6 h7 H.size v_state v_recorded v_padLength v_at v_letter v_hasUnder v_numbersMany p1 (p2 - (5 : Int32)) q14 hq14) (cwV 2 hts gX7_of_X7_howIs rfl rfl rfl hv_X7_howIs ⟨Nat.le_of_ble_eq_true rfl, Nat.le_of_ble_eq_true rfl⟩) ⟨preB_fb, va_recv hK hPc (ci := 7) (q0 := 0) rfl rfl, fun U hU hW => preB_mk hU hW hPc hK hDc hN⟩ rfl rfl hl.1 rfl (lv_room (Nat.le_of_ble_eq_true rfl)) dX7_of_88 ⟨Nat.zero_le _, Nat.zero_le _⟩) hS (fun q _ h => hFc q h) hFc (fun r_ u_ t H locs ht hvm hw hB hz1 hk1 hS => ?_)
                have hw : r_ = q14 := hw
                have hw := hw.symm
                subst hw
                obtain ⟨hP, hD⟩ := x_join (ws' := [(h0, .inr (7, [.ref h1, .ref h2, .int v_recorded, .ref h3, .ref h4, .ref h5, .int v_padLength, .ref h6, .int v_at, .int v_letter, .int v_hasUnder, .ref h7, .int v_numbersMany])), (h1, .inl (cI, 2628, .inl v_state)), (h6, .inl (cI, 7, .inl v_found))]) hP hD [0, 1] [2] rfl rfl (by decide) (by decide) hk1 hFc ht hB [1, 2, 0] (by decide) rfl
                clear hPc hDc hFc hk1 hB ht hz1 hvm
                cases hd
                exact hend (by rfl) hP hD hS dX7_of_91
              · replace hd := ite_f c13 hd
                by_cases c15 : p2 = (6 : Int32)
                · replace hd := ite_t c15 hd
                  refine lv_tableIn (off := 72) (tgt := 83) hx hb dX7_of_11 (by rw [c15]; decide) (by rw [c15]; decide) (by rw [c15]; rfl) (by decide) ?_
                  refine lv_aload_n hx hb dX7_of_83 rfl (lv_at hl 0 rfl) ?_
                  refine lv_iload_n hx hb dX7_of_84 rfl (lv_at hl 1 rfl) ?_
                  refine lv_iload_n hx hb dX7_of_85 rfl (lv_at hl 2 rfl) ?_
                  refine lv_iconst (v := 5) hx hb dX7_of_86 (by decide) ?_
                  refine lv_isub hx hb dX7_of_87 ?_
                  obtain ⟨q16, hq16, hd⟩ := bnd_some hd
                  have hPc : va_P (dC, dI) vwCl [(h0, .inr (7, [.ref h1, .ref h2, .int v_recorded, .ref h3, .ref h4, .ref h5, .int v_padLength, .ref h6, .int v_at, .int v_letter, .int v_hasUnder, .ref h7, .int v_numbersMany])), (h1, .inl (cI, 2628, .inl v_state))] _ := hP.sub [0, 1] rfl
                  have hDc := hD.sub (ws' := [(h0, .inr (7, [.ref h1, .ref h2, .int v_recorded, .ref h3, .ref h4, .ref h5, .int v_padLength, .ref h6, .int v_at, .int v_letter, .int v_hasUnder, .ref h7, .int v_numbersMany])), (h1, .inl (cI, 2628, .inl v_state))]) [0, 1] (by decide) rfl
                  have hFc := va_free (wc := [(h0, .inr (7, [.ref h1, .ref h2, .int v_recorded, .ref h3, .ref h4, .ref h5, .int v_padLength, .ref h6, .int v_at, .int v_letter, .int v_hasUnder, .ref h7, .int v_numbersMany])), (h1, .inl (cI, 2628, .inl v_state))]) hD hS hA [0, 1] rfl
                  refine va_calli (va_runV (As := [.int p1, .int (p2 - (5 : Int32))]) (rest := []) ⟨hx, hb, hml, hown, hts⟩ (c_X7_howIs l dC dI cI cC cT h0 h1 h2 h3 h4 h5 h6 h7 H.size v_state v_recorded v_padLength v_at v_letter v_hasUnder v_numbersMany p1 (p2 - (5 : Int32)) q16 hq16) (cwV 2 hts gX7_of_X7_howIs rfl rfl rfl hv_X7_howIs ⟨Nat.le_of_ble_eq_true rfl, Nat.le_of_ble_eq_true rfl⟩) ⟨preB_fb, va_recv hK hPc (ci := 7) (q0 := 0) rfl rfl, fun U hU hW => preB_mk hU hW hPc hK hDc hN⟩ rfl rfl hl.1 rfl (lv_room (Nat.le_of_ble_eq_true rfl)) dX7_of_88 ⟨Nat.zero_le _, Nat.zero_le _⟩) hS (fun q _ h => hFc q h) hFc (fun r_ u_ t H locs ht hvm hw hB hz1 hk1 hS => ?_)
                  have hw : r_ = q16 := hw
                  have hw := hw.symm
                  subst hw
                  obtain ⟨hP, hD⟩ := x_join (ws' := [(h0, .inr (7, [.ref h1, .ref h2, .int v_recorded, .ref h3, .ref h4, .ref h5, .int v_padLength, .ref h6, .int v_at, .int v_letter, .int v_hasUnder, .ref h7, .int v_numbersMany])), (h1, .inl (cI, 2628, .inl v_state)), (h6, .inl (cI, 7, .inl v_found))]) hP hD [0, 1] [2] rfl rfl (by decide) (by decide) hk1 hFc ht hB [1, 2, 0] (by decide) rfl
                  clear hPc hDc hFc hk1 hB ht hz1 hvm
                  cases hd
                  exact hend (by rfl) hP hD hS dX7_of_91
                · replace hd := ite_f c15 hd
                  by_cases c17 : p2 = (7 : Int32)
                  · replace hd := ite_t c17 hd
                    refine lv_tableIn (off := 81) (tgt := 92) hx hb dX7_of_11 (by rw [c17]; decide) (by rw [c17]; decide) (by rw [c17]; rfl) (by decide) ?_
                    refine lv_aload_n hx hb dX7_of_92 rfl (lv_at hl 0 rfl) ?_
                    refine lv_iload_n hx hb dX7_of_93 rfl (lv_at hl 1 rfl) ?_
                    obtain ⟨q18, hq18, hd⟩ := bnd_some hd
                    have hPc : va_P (dC, dI) vwCl [(h0, .inr (7, [.ref h1, .ref h2, .int v_recorded, .ref h3, .ref h4, .ref h5, .int v_padLength, .ref h6, .int v_at, .int v_letter, .int v_hasUnder, .ref h7, .int v_numbersMany])), (h1, .inl (cI, 2628, .inl v_state)), (h6, .inl (cI, 7, .inl v_found))] _ := hP.sub [0, 1, 2] rfl
                    have hDc := hD.sub (ws' := [(h0, .inr (7, [.ref h1, .ref h2, .int v_recorded, .ref h3, .ref h4, .ref h5, .int v_padLength, .ref h6, .int v_at, .int v_letter, .int v_hasUnder, .ref h7, .int v_numbersMany])), (h1, .inl (cI, 2628, .inl v_state)), (h6, .inl (cI, 7, .inl v_found))]) [0, 1, 2] (by decide) rfl
                    have hFc := va_free (wc := [(h0, .inr (7, [.ref h1, .ref h2, .int v_recorded, .ref h3, .ref h4, .ref h5, .int v_padLength, .ref h6, .int v_at, .int v_letter, .int v_hasUnder, .ref h7, .int v_numbersMany])), (h1, .inl (cI, 2628, .inl v_state)), (h6, .inl (cI, 7, .inl v_found))]) hD hS hA [0, 1, 2] rfl
                    refine va_calli (va_runV (As := [.int p1]) (rest := []) ⟨hx, hb, hml, hown, hts⟩ (c_X7_loadedBy l dC dI cI cC cT h0 h1 h2 h3 h4 h5 h6 h7 H.size v_state v_recorded v_padLength v_found v_at v_letter v_hasUnder v_numbersMany p1 q18 hq18) (cwV 1 hts gX7_of_X7_loadedBy rfl rfl rfl hv_X7_loadedBy ⟨Nat.le_of_ble_eq_true rfl, Nat.le_of_ble_eq_true rfl⟩) ⟨preB_fb, va_recv hK hPc (ci := 7) (q0 := 0) rfl rfl, fun U hU hW => preB_mk hU hW hPc hK hDc hN⟩ rfl rfl hl.1 rfl (lv_room (Nat.le_of_ble_eq_true rfl)) dX7_of_94 ⟨Nat.zero_le _, Nat.zero_le _⟩) hS (fun q _ h => hFc q h) hFc (fun r_ u_ t H locs ht hvm hw hB hz1 hk1 hS => ?_)
                    have hw : r_ = q18.1 := hw
                    have hw := hw.symm
                    subst hw
                    obtain ⟨hP, hD⟩ := x_join (ws' := [(h0, .inr (7, [.ref h1, .ref h2, .int v_recorded, .ref h3, .ref h4, .ref h5, .int v_padLength, .ref h6, .int v_at, .int v_letter, .int v_hasUnder, .ref h7, .int v_numbersMany])), (h1, .inl (cI, 2628, .inl v_state)), (h6, .inl (cI, 7, .inl q18.2))]) hP hD [0, 1, 2] [] rfl rfl (by decide) (by decide) hk1 hFc ht hB [0, 1, 2] (by decide) rfl
                    clear hPc hDc hFc hk1 hB ht hz1 hvm
                    cases hd
                    exact hend (by rfl) hP hD hS dX7_of_97
                  · replace hd := ite_f c17 hd
                    by_cases c19 : p2 = (8 : Int32)
                    · replace hd := ite_t c19 hd
                      refine lv_tableIn (off := 87) (tgt := 98) hx hb dX7_of_11 (by rw [c19]; decide) (by rw [c19]; decide) (by rw [c19]; rfl) (by decide) ?_
                      refine lv_aload_n hx hb dX7_of_98 rfl (lv_at hl 0 rfl) ?_
                      refine lv_iload_n hx hb dX7_of_99 rfl (lv_at hl 1 rfl) ?_
                      obtain ⟨q20, hq20, hd⟩ := bnd_some hd
                      have hPc : va_P (dC, dI) vwCl [(h0, .inr (7, [.ref h1, .ref h2, .int v_recorded, .ref h3, .ref h4, .ref h5, .int v_padLength, .ref h6, .int v_at, .int v_letter, .int v_hasUnder, .ref h7, .int v_numbersMany])), (h1, .inl (cI, 2628, .inl v_state))] _ := hP.sub [0, 1] rfl
                      have hDc := hD.sub (ws' := [(h0, .inr (7, [.ref h1, .ref h2, .int v_recorded, .ref h3, .ref h4, .ref h5, .int v_padLength, .ref h6, .int v_at, .int v_letter, .int v_hasUnder, .ref h7, .int v_numbersMany])), (h1, .inl (cI, 2628, .inl v_state))]) [0, 1] (by decide) rfl
                      have hFc := va_free (wc := [(h0, .inr (7, [.ref h1, .ref h2, .int v_recorded, .ref h3, .ref h4, .ref h5, .int v_padLength, .ref h6, .int v_at, .int v_letter, .int v_hasUnder, .ref h7, .int v_numbersMany])), (h1, .inl (cI, 2628, .inl v_state))]) hD hS hA [0, 1] rfl
                      refine va_calli (va_runV (As := [.int p1]) (rest := []) ⟨hx, hb, hml, hown, hts⟩ (c_X7_depthOf l dC dI cI cC cT h0 h1 h2 h3 h4 h5 h6 h7 H.size v_state v_recorded v_padLength v_at v_letter v_hasUnder v_numbersMany p1 q20 hq20) (cwV 1 hts gX7_of_X7_depthOf rfl rfl rfl hv_X7_depthOf ⟨Nat.le_of_ble_eq_true rfl, Nat.le_of_ble_eq_true rfl⟩) ⟨preB_fb, va_recv hK hPc (ci := 7) (q0 := 0) rfl rfl, fun U hU hW => preB_mk hU hW hPc hK hDc hN⟩ rfl rfl hl.1 rfl (lv_room (Nat.le_of_ble_eq_true rfl)) dX7_of_100 ⟨Nat.zero_le _, Nat.zero_le _⟩) hS (fun q _ h => hFc q h) hFc (fun r_ u_ t H locs ht hvm hw hB hz1 hk1 hS => ?_)
                      have hw : r_ = q20 := hw
                      have hw := hw.symm
                      subst hw
                      obtain ⟨hP, hD⟩ := x_join (ws' := [(h0, .inr (7, [.ref h1, .ref h2, .int v_recorded, .ref h3, .ref h4, .ref h5, .int v_padLength, .ref h6, .int v_at, .int v_letter, .int v_hasUnder, .ref h7, .int v_numbersMany])), (h1, .inl (cI, 2628, .inl v_state)), (h6, .inl (cI, 7, .inl v_found))]) hP hD [0, 1] [2] rfl rfl (by decide) (by decide) hk1 hFc ht hB [1, 2, 0] (by decide) rfl
                      clear hPc hDc hFc hk1 hB ht hz1 hvm
                      cases hd
                      exact hend (by rfl) hP hD hS dX7_of_103
                    · replace hd := ite_f c19 hd
                      by_cases c21 : p2 = (9 : Int32)
                      · replace hd := ite_t c21 hd
                        refine lv_tableIn (off := 93) (tgt := 104) hx hb dX7_of_11 (by rw [c21]; decide) (by rw [c21]; decide) (by rw [c21]; rfl) (by decide) ?_
                        refine lv_aload_n hx hb dX7_of_104 rfl (lv_at hl 0 rfl) ?_
                        refine lv_aload_n hx hb dX7_of_105 rfl (lv_at hl 0 rfl) ?_
                        refine lv_iload_n hx hb dX7_of_106 rfl (lv_at hl 1 rfl) ?_
                        obtain ⟨q22, hq22, hd⟩ := bnd_some hd
                        have hPc : va_P (dC, dI) vwCl [(h0, .inr (7, [.ref h1, .ref h2, .int v_recorded, .ref h3, .ref h4, .ref h5, .int v_padLength, .ref h6, .int v_at, .int v_letter, .int v_hasUnder, .ref h7, .int v_numbersMany])), (h1, .inl (cI, 2628, .inl v_state))] _ := hP.sub [0, 1] rfl
                        have hDc := hD.sub (ws' := [(h0, .inr (7, [.ref h1, .ref h2, .int v_recorded, .ref h3, .ref h4, .ref h5, .int v_padLength, .ref h6, .int v_at, .int v_letter, .int v_hasUnder, .ref h7, .int v_numbersMany])), (h1, .inl (cI, 2628, .inl v_state))]) [0, 1] (by decide) rfl
                        have hFc := va_free (wc := [(h0, .inr (7, [.ref h1, .ref h2, .int v_recorded, .ref h3, .ref h4, .ref h5, .int v_padLength, .ref h6, .int v_at, .int v_letter, .int v_hasUnder, .ref h7, .int v_numbersMany])), (h1, .inl (cI, 2628, .inl v_state))]) hD hS hA [0, 1] rfl
                        refine va_calli (va_runV (As := [.int p1]) (rest := [.ref h0]) ⟨hx, hb, hml, hown, hts⟩ (c_X7_firstOf l dC dI cI cC cT h0 h1 h2 h3 h4 h5 h6 h7 H.size v_state v_recorded v_padLength v_at v_letter v_hasUnder v_numbersMany p1 q22 hq22) (cwV 1 hts gX7_of_X7_firstOf rfl rfl rfl hv_X7_firstOf ⟨Nat.le_of_ble_eq_true rfl, Nat.le_of_ble_eq_true rfl⟩) ⟨preB_fb, va_recv hK hPc (ci := 7) (q0 := 0) rfl rfl, fun U hU hW => preB_mk hU hW hPc hK hDc hN⟩ rfl rfl hl.1 rfl (lv_room (Nat.le_of_ble_eq_true rfl)) dX7_of_107 ⟨Nat.zero_le _, Nat.zero_le _⟩) hS (fun q _ h => hFc q h) hFc (fun r_ u_ t H locs ht hvm hw hB hz1 hk1 hS => ?_)
                        have hw : r_ = q22 := hw
                        have hw := hw.symm
                        subst hw
                        obtain ⟨hP, hD⟩ := x_join (ws' := [(h0, .inr (7, [.ref h1, .ref h2, .int v_recorded, .ref h3, .ref h4, .ref h5, .int v_padLength, .ref h6, .int v_at, .int v_letter, .int v_hasUnder, .ref h7, .int v_numbersMany])), (h1, .inl (cI, 2628, .inl v_state)), (h6, .inl (cI, 7, .inl v_found))]) hP hD [0, 1] [2] rfl rfl (by decide) (by decide) hk1 hFc ht hB [1, 2, 0] (by decide) rfl
                        clear hPc hDc hFc hk1 hB ht hz1 hvm
                        obtain ⟨q23, hq23, hd⟩ := bnd_some hd
                        have hPc : va_P (dC, dI) vwCl [(h0, .inr (7, [.ref h1, .ref h2, .int v_recorded, .ref h3, .ref h4, .ref h5, .int v_padLength, .ref h6, .int v_at, .int v_letter, .int v_hasUnder, .ref h7, .int v_numbersMany])), (h1, .inl (cI, 2628, .inl v_state))] _ := hP.sub [0, 1] rfl
                        have hDc := hD.sub (ws' := [(h0, .inr (7, [.ref h1, .ref h2, .int v_recorded, .ref h3, .ref h4, .ref h5, .int v_padLength, .ref h6, .int v_at, .int v_letter, .int v_hasUnder, .ref h7, .int v_numbersMany])), (h1, .inl (cI, 2628, .inl v_state))]) [0, 1] (by decide) rfl
                        have hFc := va_free (wc := [(h0, .inr (7, [.ref h1, .ref h2, .int v_recorded, .ref h3, .ref h4, .ref h5, .int v_padLength, .ref h6, .int v_at, .int v_letter, .int v_hasUnder, .ref h7, .int v_numbersMany])), (h1, .inl (cI, 2628, .inl v_state))]) hD hS hA [0, 1] rfl
                        refine va_calli (va_runV (As := [.int q22]) (rest := []) ⟨hx, hb, hml, hown, hts⟩ (c_X7_counterOf l dC dI cI cC cT h0 h1 h2 h3 h4 h5 h6 h7 H.size v_state v_recorded v_padLength v_at v_letter v_hasUnder v_numbersMany q22 q23 hq23) (cwV 1 hts gX7_of_X7_counterOf rfl rfl rfl hv_X7_counterOf ⟨Nat.le_of_ble_eq_true rfl, Nat.le_of_ble_eq_true rfl⟩) ⟨preB_fb, va_recv hK hPc (ci := 7) (q0 := 0) rfl rfl, fun U hU hW => preB_mk hU hW hPc hK hDc hN⟩ rfl rfl hl.1 rfl (lv_room (Nat.le_of_ble_eq_true rfl)) dX7_of_110 ⟨Nat.zero_le _, Nat.zero_le _⟩) hS (fun q _ h => hFc q h) hFc (fun r_ u_ t H locs ht hvm hw hB hz1 hk1 hS => ?_)
                        have hw : r_ = q23 := hw
                        have hw := hw.symm
                        subst hw
                        obtain ⟨hP, hD⟩ := x_join (ws' := [(h0, .inr (7, [.ref h1, .ref h2, .int v_recorded, .ref h3, .ref h4, .ref h5, .int v_padLength, .ref h6, .int v_at, .int v_letter, .int v_hasUnder, .ref h7, .int v_numbersMany])), (h1, .inl (cI, 2628, .inl v_state)), (h6, .inl (cI, 7, .inl v_found))]) hP hD [0, 1] [2] rfl rfl (by decide) (by decide) hk1 hFc ht hB [1, 2, 0] (by decide) rfl
                        clear hPc hDc hFc hk1 hB ht hz1 hvm
                        cases hd
                        exact hend (by rfl) hP hD hS dX7_of_113
                      · replace hd := ite_f c21 hd
                        refine lv_tableOut (tgt := 114) hx hb dX7_of_11 (by have n0 := lv_neT (a := 0) c3 (by decide); have n1 := lv_neT (a := 1) c5 (by decide); have n2 := lv_neT (a := 2) c7 (by decide); have n3 := lv_neT (a := 3) c9 (by decide); have n4 := lv_neT (a := 4) c11 (by decide); have n5 := lv_neT (a := 5) c13 (by decide); have n6 := lv_neT (a := 6) c15 (by decide); have n7 := lv_neT (a := 7) c17 (by decide); have n8 := lv_neT (a := 8) c19 (by decide); have n9 := lv_neT (a := 9) c21 (by decide); omega) (by decide) ?_
                        refine lv_bipush (v := -2) hx hb dX7_of_114 (by decide) ?_
                        cases hd
                        exact hend (by rfl) hP hD hS dX7_of_116
  · replace hd := ite_t c2 hd
    refine lv_iconst (v := -1) hx hb dX7_of_8 (by decide) ?_
    cases hd
    exact hend (by rfl) hP hD hS dX7_of_9
def rmX7_load : Room := { frames := 8, cells := 0, slots := 0, locals := 189 }
theorem kX7_load_3 : (Cond.fieldLink RX7 25 "CassetteTonesModel" "found" "[I") ∈ wsX7_load := List.mem_of_getElem? (i := 3) (by decide +kernel)
theorem kX7_load_2 : (Cond.constantLong RX7 141 (-5)) ∈ wsX7_load := List.mem_of_getElem? (i := 2) (by decide +kernel)
theorem kX7_load_1 : (Cond.constantLong RX7 139 (-1)) ∈ wsX7_load := List.mem_of_getElem? (i := 1) (by decide +kernel)
theorem inX7_load_X7 : ∀ w ∈ wsX70, w ∈ wsX7_load := by decide +kernel
theorem hp_X7_load : yX7_load.cls ≠ "java/lang/invoke/MethodHandle" ∧ yX7_load.cls ≠ "java/lang/invoke/VarHandle" ∧ (parseMethodDescriptor yX7_load.desc).map (fun d => d.parameters.length) = some 1 := by decide +kernel
theorem hv_X7_load : yX7_load.cls = RX7 ∧ yX7_load.cls ≠ "java/lang/invoke/MethodHandle" ∧ yX7_load.cls ≠ "java/lang/invoke/VarHandle" ∧ (parseMethodDescriptor yX7_load.desc).map (fun d => d.parameters.length) = some 1 := by decide +kernel
set_option maxHeartbeats 4000000 in
set_option maxRecDepth 100000 in
theorem c_X7_load (l : Launch) (dC : Nat → ClassId) (dI : Nat → Nat → Nat) (cI cC cT : ClassId) (h0 h1 h2 h3 h4 h5 h6 h7 : Nat) (sz : Nat) (v_state : (Nat → Int32)) (v_recorded : Int32) (v_padLength : Int32) (v_found : (Nat → Int32)) (v_at : Int32) (v_letter : Int32) (v_hasUnder : Int32) (v_numbersMany : Int32) (p1 : Int32) (r : (Int64 × (Nat → Int32))) (hd : den_X7_load v_state v_found p1 = some r) : Met l yX7_load wsX7_load rmX7_load (va_Pc [.ref h0, .int p1] (preB sz (dC, dI) [(h0, .inr (7, [.ref h1, .ref h2, .int v_recorded, .ref h3, .ref h4, .ref h5, .int v_padLength, .ref h6, .int v_at, .int v_letter, .int v_hasUnder, .ref h7, .int v_numbersMany])), (h1, .inl (cI, 2628, .inl v_state)), (h6, .inl (cI, 7, .inl v_found))] [(cI, .int), (cC, .char), (cT, .object "CassetteTones$Tape")])) (va_Ql (S := Unit) (fun v _ => v = r.1) (fun _ t => posB (dC, dI) [(h0, .inr (7, [.ref h1, .ref h2, .int v_recorded, .ref h3, .ref h4, .ref h5, .int v_padLength, .ref h6, .int v_at, .int v_letter, .int v_hasUnder, .ref h7, .int v_numbersMany])), (h1, .inl (cI, 2628, .inl v_state)), (h6, .inl (cI, 7, .inl r.2))] [(cI, .int), (cC, .char), (cT, .object "CassetteTones$Tape")] (va_A [(h0, .inr (7, [.ref h1, .ref h2, .int v_recorded, .ref h3, .ref h4, .ref h5, .int v_padLength, .ref h6, .int v_at, .int v_letter, .int v_hasUnder, .ref h7, .int v_numbersMany])), (h1, .inl (cI, 2628, .inl v_state)), (h6, .inl (cI, 7, .inl v_found))] sz) t) (va_A [(h0, .inr (7, [.ref h1, .ref h2, .int v_recorded, .ref h3, .ref h4, .ref h5, .int v_padLength, .ref h6, .int v_at, .int v_letter, .int v_hasUnder, .ref h7, .int v_numbersMany])), (h1, .inl (cI, 2628, .inl v_state)), (h6, .inl (cI, 7, .inl v_found))] sz)) 0 0 (va_A [(h0, .inr (7, [.ref h1, .ref h2, .int v_recorded, .ref h3, .ref h4, .ref h5, .int v_padLength, .ref h6, .int v_at, .int v_letter, .int v_hasUnder, .ref h7, .int v_numbersMany])), (h1, .inl (cI, 2628, .inl v_state)), (h6, .inl (cI, 7, .inl v_found))] sz) := by
  refine x_met_l (by decide) rfl (Nat.le_of_ble_eq_true rfl) ?_
  intro p e s m args below meth c A Q H locs ls hx hb hml hown hts hK hN hA hP hD hS hl hend
  have hown : s.vm.findClass RX7 = some m.cls := hown
  have hl : lv_has ls 5 [(0, .ref h0), (1, .int p1)] := hl
  unfold den_X7_load at hd
  refine lv_aload_n hx hb dX7_load_0 rfl (lv_at hl 0 rfl) ?_
  refine lv_iload_n hx hb dX7_load_1 rfl (lv_at hl 1 rfl) ?_
  obtain ⟨q1, hq1, hd⟩ := bnd_some hd
  have hPc : va_P (dC, dI) vwCl [(h0, .inr (7, [.ref h1, .ref h2, .int v_recorded, .ref h3, .ref h4, .ref h5, .int v_padLength, .ref h6, .int v_at, .int v_letter, .int v_hasUnder, .ref h7, .int v_numbersMany])), (h1, .inl (cI, 2628, .inl v_state))] _ := hP.sub [0, 1] rfl
  have hDc := hD.sub (ws' := [(h0, .inr (7, [.ref h1, .ref h2, .int v_recorded, .ref h3, .ref h4, .ref h5, .int v_padLength, .ref h6, .int v_at, .int v_letter, .int v_hasUnder, .ref h7, .int v_numbersMany])), (h1, .inl (cI, 2628, .inl v_state))]) [0, 1] (by decide) rfl
  have hFc := va_free (wc := [(h0, .inr (7, [.ref h1, .ref h2, .int v_recorded, .ref h3, .ref h4, .ref h5, .int v_padLength, .ref h6, .int v_at, .int v_letter, .int v_hasUnder, .ref h7, .int v_numbersMany])), (h1, .inl (cI, 2628, .inl v_state))]) hD hS hA [0, 1] rfl
  refine va_calli (va_runV (As := [.int p1]) (rest := []) ⟨hx, hb, hml, hown, hts⟩ (c_X7_isBlock l dC dI cI cC cT h0 h1 h2 h3 h4 h5 h6 h7 H.size v_state v_recorded v_padLength v_at v_letter v_hasUnder v_numbersMany p1 q1 hq1) (cwV 1 hts gX7_load_X7_isBlock rfl rfl rfl hv_X7_isBlock ⟨Nat.le_of_ble_eq_true rfl, Nat.le_of_ble_eq_true rfl⟩) ⟨preB_fb, va_recv hK hPc (ci := 7) (q0 := 0) rfl rfl, fun U hU hW => preB_mk hU hW hPc hK hDc hN⟩ rfl rfl hl.1 rfl (lv_room (Nat.le_of_ble_eq_true rfl)) dX7_load_2 ⟨Nat.zero_le _, Nat.zero_le _⟩) hS (fun q _ h => hFc q h) hFc (fun r_ u_ t H locs ht hvm hw hB hz1 hk1 hS => ?_)
  have hw : r_ = q1 := hw
  have hw := hw.symm
  subst hw
  obtain ⟨hP, hD⟩ := x_join (ws' := [(h0, .inr (7, [.ref h1, .ref h2, .int v_recorded, .ref h3, .ref h4, .ref h5, .int v_padLength, .ref h6, .int v_at, .int v_letter, .int v_hasUnder, .ref h7, .int v_numbersMany])), (h1, .inl (cI, 2628, .inl v_state)), (h6, .inl (cI, 7, .inl v_found))]) hP hD [0, 1] [2] rfl rfl (by decide) (by decide) hk1 hFc ht hB [1, 2, 0] (by decide) rfl
  clear hPc hDc hFc hk1 hB ht hz1 hvm
  refine lv_if_ne (tgt := 12) hx hb dX7_load_5 (by decide) (fun c2 => ?_) (fun c2 => ?_)
  · replace hd := ite_f c2 hd
    refine lv_aload_n hx hb dX7_load_12 rfl (lv_at hl 0 rfl) ?_
    refine lv_iload_n hx hb dX7_load_13 rfl (lv_at hl 1 rfl) ?_
    obtain ⟨q3, hq3, hd⟩ := bnd_some hd
    have hPc : va_P (dC, dI) vwCl [(h0, .inr (7, [.ref h1, .ref h2, .int v_recorded, .ref h3, .ref h4, .ref h5, .int v_padLength, .ref h6, .int v_at, .int v_letter, .int v_hasUnder, .ref h7, .int v_numbersMany])), (h1, .inl (cI, 2628, .inl v_state)), (h6, .inl (cI, 7, .inl v_found))] _ := hP.sub [0, 1, 2] rfl
    have hDc := hD.sub (ws' := [(h0, .inr (7, [.ref h1, .ref h2, .int v_recorded, .ref h3, .ref h4, .ref h5, .int v_padLength, .ref h6, .int v_at, .int v_letter, .int v_hasUnder, .ref h7, .int v_numbersMany])), (h1, .inl (cI, 2628, .inl v_state)), (h6, .inl (cI, 7, .inl v_found))]) [0, 1, 2] (by decide) rfl
    have hFc := va_free (wc := [(h0, .inr (7, [.ref h1, .ref h2, .int v_recorded, .ref h3, .ref h4, .ref h5, .int v_padLength, .ref h6, .int v_at, .int v_letter, .int v_hasUnder, .ref h7, .int v_numbersMany])), (h1, .inl (cI, 2628, .inl v_state)), (h6, .inl (cI, 7, .inl v_found))]) hD hS hA [0, 1, 2] rfl
    refine va_calli (va_runV (As := [.int p1]) (rest := []) ⟨hx, hb, hml, hown, hts⟩ (c_X7_loadedBy l dC dI cI cC cT h0 h1 h2 h3 h4 h5 h6 h7 H.size v_state v_recorded v_padLength v_found v_at v_letter v_hasUnder v_numbersMany p1 q3 hq3) (cwV 1 hts gX7_load_X7_loadedBy rfl rfl rfl hv_X7_loadedBy ⟨Nat.le_of_ble_eq_true rfl, Nat.le_of_ble_eq_true rfl⟩) ⟨preB_fb, va_recv hK hPc (ci := 7) (q0 := 0) rfl rfl, fun U hU hW => preB_mk hU hW hPc hK hDc hN⟩ rfl rfl hl.1 rfl (lv_room (Nat.le_of_ble_eq_true rfl)) dX7_load_14 ⟨Nat.zero_le _, Nat.zero_le _⟩) hS (fun q _ h => hFc q h) hFc (fun r_ u_ t H locs ht hvm hw hB hz1 hk1 hS => ?_)
    have hw : r_ = q3.1 := hw
    have hw := hw.symm
    subst hw
    obtain ⟨hP, hD⟩ := x_join (ws' := [(h0, .inr (7, [.ref h1, .ref h2, .int v_recorded, .ref h3, .ref h4, .ref h5, .int v_padLength, .ref h6, .int v_at, .int v_letter, .int v_hasUnder, .ref h7, .int v_numbersMany])), (h1, .inl (cI, 2628, .inl v_state)), (h6, .inl (cI, 7, .inl q3.2))]) hP hD [0, 1, 2] [] rfl rfl (by decide) (by decide) hk1 hFc ht hB [0, 1, 2] (by decide) rfl
    clear hPc hDc hFc hk1 hB ht hz1 hvm
    refine lv_bipush (v := -6) hx hb dX7_load_17 (by decide) ?_
    refine lv_icmp_ne (tgt := 26) hx hb dX7_load_19 (by decide) (fun c4 => ?_) (fun c4 => ?_)
    · replace hd := ite_f c4 hd
      refine lv_lconst (v := 0) hx hb dX7_load_26 (by decide) ?_
      refine lv_lstore_n (lv' := [(2, .long (0 : Int64)), (0, .ref h0), (1, .int p1)]) hx hb dX7_load_27 rfl hl (by decide) rfl (fun ls hl => ?_)
      refine lv_iconst (v := 0) hx hb dX7_load_28 (by decide) ?_
      refine lv_istore (lv' := [(4, .int (0 : Int32)), (2, .long (0 : Int64)), (0, .ref h0), (1, .int p1)]) hx hb dX7_load_29 hl (by decide) rfl (fun ls hl => ?_)
      obtain ⟨q5, hq5, hd⟩ := bnd_some hd
      have Kq5 : ∀ (H : Heap) (locs : List Loc) (ls : Array Slot), va_P (dC, dI) vwCl [(h0, .inr (7, [.ref h1, .ref h2, .int v_recorded, .ref h3, .ref h4, .ref h5, .int v_padLength, .ref h6, .int v_at, .int v_letter, .int v_hasUnder, .ref h7, .int v_numbersMany])), (h1, .inl (cI, 2628, .inl v_state)), (h6, .inl (cI, 7, .inl q3.2))] H → va_D A [(h0, .inr (7, [.ref h1, .ref h2, .int v_recorded, .ref h3, .ref h4, .ref h5, .int v_padLength, .ref h6, .int v_at, .int v_letter, .int v_hasUnder, .ref h7, .int v_numbersMany])), (h1, .inl (cI, 2628, .inl v_state)), (h6, .inl (cI, 7, .inl q3.2))] → va_S A s.heap H locs → lv_has ls 5 [(2, .long q5)] → W p l e rmX7_load s m args below meth c H locs 0 0 Q (F0 m 65 ls []) := by
        intro H locs ls hP hD hS hl
        refine lv_lload_n hx hb dX7_load_65 rfl (lv_at hl 0 rfl) ?_
        cases hd
        exact hend (by rfl) hP hD hS dX7_load_66
      clear hd
      have KL10 : ∀ (fu : Nat) (y2_31 : Int64) (y4_31 : Int32) (hd : den_X7_load_L31 p1 v_state q3 fu y2_31 y4_31 = some q5) (H : Heap) (locs : List Loc) (ls : Array Slot), va_P (dC, dI) vwCl [(h0, .inr (7, [.ref h1, .ref h2, .int v_recorded, .ref h3, .ref h4, .ref h5, .int v_padLength, .ref h6, .int v_at, .int v_letter, .int v_hasUnder, .ref h7, .int v_numbersMany])), (h1, .inl (cI, 2628, .inl v_state)), (h6, .inl (cI, 7, .inl q3.2))] H → va_D A [(h0, .inr (7, [.ref h1, .ref h2, .int v_recorded, .ref h3, .ref h4, .ref h5, .int v_padLength, .ref h6, .int v_at, .int v_letter, .int v_hasUnder, .ref h7, .int v_numbersMany])), (h1, .inl (cI, 2628, .inl v_state)), (h6, .inl (cI, 7, .inl q3.2))] → va_S A s.heap H locs → lv_has ls 5 [(0, .ref h0), (1, .int p1), (2, .long y2_31), (4, .int y4_31)] → W p l e rmX7_load s m args below meth c H locs 0 0 Q (F0 m 31 ls []) := by
        intro fu
        induction fu with
        | zero => intro y2_31 y4_31 hd; exact no_some hd
        | succ fu ih =>
          intro y2_31 y4_31 hd H locs ls hP hD hS hl
          rw [den_X7_load_L31] at hd
          refine lv_iload hx hb dX7_load_31 (lv_at hl 3 rfl) ?_
          refine lv_aload_n hx hb dX7_load_33 rfl (lv_at hl 0 rfl) ?_
          refine lv_iload_n hx hb dX7_load_34 rfl (lv_at hl 1 rfl) ?_
          refine lv_iconst (v := 2) hx hb dX7_load_35 (by decide) ?_
          obtain ⟨q6, hq6, hd⟩ := bnd_some hd
          have hPc : va_P (dC, dI) vwCl [(h0, .inr (7, [.ref h1, .ref h2, .int v_recorded, .ref h3, .ref h4, .ref h5, .int v_padLength, .ref h6, .int v_at, .int v_letter, .int v_hasUnder, .ref h7, .int v_numbersMany])), (h1, .inl (cI, 2628, .inl v_state))] _ := hP.sub [0, 1] rfl
          have hDc := hD.sub (ws' := [(h0, .inr (7, [.ref h1, .ref h2, .int v_recorded, .ref h3, .ref h4, .ref h5, .int v_padLength, .ref h6, .int v_at, .int v_letter, .int v_hasUnder, .ref h7, .int v_numbersMany])), (h1, .inl (cI, 2628, .inl v_state))]) [0, 1] (by decide) rfl
          have hFc := va_free (wc := [(h0, .inr (7, [.ref h1, .ref h2, .int v_recorded, .ref h3, .ref h4, .ref h5, .int v_padLength, .ref h6, .int v_at, .int v_letter, .int v_hasUnder, .ref h7, .int v_numbersMany])), (h1, .inl (cI, 2628, .inl v_state))]) hD hS hA [0, 1] rfl
          refine va_calli (va_runV (As := [.int p1, .int (2 : Int32)]) (rest := [.int y4_31]) ⟨hx, hb, hml, hown, hts⟩ (c_X7_part l dC dI cI cC cT h0 h1 h2 h3 h4 h5 h6 h7 H.size v_state v_recorded v_padLength v_at v_letter v_hasUnder v_numbersMany p1 (2 : Int32) q6 hq6) (cwV 2 hts gX7_load_X7_part rfl rfl rfl hv_X7_part ⟨Nat.le_of_ble_eq_true rfl, Nat.le_of_ble_eq_true rfl⟩) ⟨preB_fb, va_recv hK hPc (ci := 7) (q0 := 0) rfl rfl, fun U hU hW => preB_mk hU hW hPc hK hDc hN⟩ rfl rfl hl.1 rfl (lv_room (Nat.le_of_ble_eq_true rfl)) dX7_load_36 ⟨Nat.zero_le _, Nat.zero_le _⟩) hS (fun q _ h => hFc q h) hFc (fun r_ u_ t H locs ht hvm hw hB hz1 hk1 hS => ?_)
          have hw : r_ = q6 := hw
          have hw := hw.symm
          subst hw
          obtain ⟨hP, hD⟩ := x_join (ws' := [(h0, .inr (7, [.ref h1, .ref h2, .int v_recorded, .ref h3, .ref h4, .ref h5, .int v_padLength, .ref h6, .int v_at, .int v_letter, .int v_hasUnder, .ref h7, .int v_numbersMany])), (h1, .inl (cI, 2628, .inl v_state)), (h6, .inl (cI, 7, .inl q3.2))]) hP hD [0, 1] [2] rfl rfl (by decide) (by decide) hk1 hFc ht hB [1, 2, 0] (by decide) rfl
          clear hPc hDc hFc hk1 hB ht hz1 hvm
          refine lv_icmp_ge (tgt := 65) hx hb dX7_load_39 (by decide) (fun c7 => ?_) (fun c7 => ?_)
          · replace hd := ite_t c7 hd
            cases hd
            exact Kq5 _ _ _ hP hD hS (lv_sub hl [2] rfl)
          · replace hd := ite_f c7 hd
            refine lv_lload_n hx hb dX7_load_42 rfl (lv_at hl 2 rfl) ?_
            refine lv_aload_n hx hb dX7_load_43 rfl (lv_at hl 0 rfl) ?_
            refine va_get (D := (dC, dI)) (ci := 7) (v := .ref h6) (C := RX7) (T := TX7) (N := 13) hx hb hts inX7_load_X7 hown hK hP 0 rfl rfl 7 (by decide) (hts _ kX7_load_3) (fun _ h9 => h9) rfl dX7_load_44 ?_
            refine lv_iload hx hb dX7_load_47 (lv_at hl 3 rfl) ?_
            obtain ⟨g8, hd⟩ := gd_some hd
            refine x_iald (k := y4_31.toNatClampNeg) hx hb hK hP 2 0 rfl rfl (inb_in g8) rfl dX7_load_49 ?_
            refine lv_i2l (v := ((q3.2 y4_31.toNatClampNeg)).toInt64) hx hb dX7_load_50 rfl ?_
            refine lv_bipush (v := 8) hx hb dX7_load_51 (by decide) ?_
            refine lv_iload hx hb dX7_load_53 (lv_at hl 3 rfl) ?_
            refine lv_imul hx hb dX7_load_55 ?_
            refine lv_lshl (v := ((((q3.2 y4_31.toNatClampNeg)).toInt64) <<< ((((8 : Int32) * y4_31)).toInt64 &&& 63))) hx hb dX7_load_56 rfl ?_
            refine lv_lor hx hb dX7_load_57 ?_
            refine lv_topl (fun x9 ex9 => ?_)
            replace hd := nm_some ex9 hd
            refine lv_lstore_n (lv' := [(2, .long x9), (0, .ref h0), (1, .int p1), (4, .int y4_31)]) hx hb dX7_load_58 rfl hl (by decide) rfl (fun ls hl => ?_)
            refine lv_iinc (v := (y4_31 + (1 : Int32))) (lv' := [(4, .int (y4_31 + (1 : Int32))), (2, .long x9), (0, .ref h0), (1, .int p1)]) hx hb dX7_load_59 hl (k := 3) rfl (by first | rfl | decide) (by decide) rfl (fun ls hl => ?_)
            refine lv_goto (tgt := 31) hx hb dX7_load_62 (by decide) ?_
            exact ih x9 (y4_31 + (1 : Int32)) hd _ _ _ hP hD hS (lv_sub hl [2, 3, 1, 0] rfl)
      exact KL10 FU (0 : Int64) (0 : Int32) hq5 _ _ _ hP hD hS (lv_sub hl [2, 3, 1, 0] rfl)
    · replace hd := ite_t c4 hd
      refine lv_ldc2 (v := -5) hx hb hown (hts _ kX7_load_2) dX7_load_22 ?_
      cases hd
      exact hend (by rfl) hP hD hS dX7_load_25
  · replace hd := ite_t c2 hd
    refine lv_ldc2 (v := -1) hx hb hown (hts _ kX7_load_1) dX7_load_8 ?_
    cases hd
    exact hend (by rfl) hP hD hS dX7_load_11
