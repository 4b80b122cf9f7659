set_option linter.unusedVariables false
def rmL_low : Room := { frames := 0, cells := 0, slots := 0, locals := 0 }
theorem kL_low_1 : (Cond.constant RL 9 (2147483647)) ∈ wsL_low := List.mem_of_getElem? (i := 1) (by decide +kernel)
theorem hp_L_low : yL_low.cls ≠ "java/lang/invoke/MethodHandle" ∧ yL_low.cls ≠ "java/lang/invoke/VarHandle" ∧ (parseMethodDescriptor yL_low.desc).map (fun d => d.parameters.length) = some 2 := by decide +kernel
set_option maxHeartbeats 4000000 in
set_option maxRecDepth 100000 in
theorem c_L_low (l : Launch) (dC : Nat → ClassId) (dI : Nat → Nat → Nat) (cI cC cT cL : ClassId) (sz : Nat) (p1 : Int32) (p2 : Int32) (r : Int32) (hd : den_L_low p1 p2 = some r) : Met l yL_low wsL_low rmL_low (va_Pc [.int p1, .int p2] (preB sz (dC, dI) [] [(cI, .int), (cC, .char), (cT, .object "CassetteTones$Tape"), (cL, .long)])) (va_Qi (S := Unit) (fun v _ => v = r) (fun _ t => posB (dC, dI) [] [(cI, .int), (cC, .char), (cT, .object "CassetteTones$Tape"), (cL, .long)] (va_A [] sz) t) (va_A [] sz)) 0 0 (va_A [] sz) := by
  refine x_met_i (by decide) rfl (Nat.le_of_ble_eq_true rfl) ?_
  intro p e s m args below meth c A Q H locs ls hx hb hml hown hts hK hN hA hP hD hS hl hend
  have hown : s.vm.findClass RL = some m.cls := hown
  have hl : lv_has ls 2 [(0, .int p1), (1, .int p2)] := hl
  unfold den_L_low at hd
  refine lv_iload_n hx hb dL_low_0 rfl (lv_at hl 0 rfl) ?_
  refine lv_ldc (v := 2147483647) hx hb hown (hts _ kL_low_1) dL_low_1 ?_
  refine lv_iand hx hb dL_low_3 ?_
  refine lv_iload_n hx hb dL_low_4 rfl (lv_at hl 1 rfl) ?_
  obtain ⟨g1, hd⟩ := gd_some hd
  refine lv_irem hx hb dL_low_5 (of_decide_eq_true g1) ?_
  cases hd
  exact hend (by rfl) hP hD hS dL_low_6
def rmL_mem : Room := { frames := 0, cells := 0, slots := 0, locals := 0 }
theorem hp_L_mem : yL_mem.cls ≠ "java/lang/invoke/MethodHandle" ∧ yL_mem.cls ≠ "java/lang/invoke/VarHandle" ∧ (parseMethodDescriptor yL_mem.desc).map (fun d => d.parameters.length) = some 2 := by decide +kernel
set_option maxHeartbeats 4000000 in
set_option maxRecDepth 100000 in
theorem c_L_mem (l : Launch) (dC : Nat → ClassId) (dI : Nat → Nat → Nat) (cI cC cT cL : ClassId) (h0 : Nat) (n0 : Nat) (sz : Nat) (p2_a : (Nat → Int64)) (p1 : Int32) (r : Int32) (hd : den_L_mem n0 p2_a p1 = some r) : Met l yL_mem wsL_mem rmL_mem (va_Pc [.int p1, .ref h0] (preB sz (dC, dI) [(h0, .inl (cL, n0, .inr (.inl p2_a)))] [(cI, .int), (cC, .char), (cT, .object "CassetteTones$Tape"), (cL, .long)])) (va_Qi (S := Unit) (fun v _ => v = r) (fun _ t => posB (dC, dI) [(h0, .inl (cL, n0, .inr (.inl p2_a)))] [(cI, .int), (cC, .char), (cT, .object "CassetteTones$Tape"), (cL, .long)] (va_A [(h0, .inl (cL, n0, .inr (.inl p2_a)))] sz) t) (va_A [(h0, .inl (cL, n0, .inr (.inl p2_a)))] sz)) 0 0 (va_A [(h0, .inl (cL, n0, .inr (.inl p2_a)))] sz) := by
  refine x_met_i (by decide) rfl (Nat.le_of_ble_eq_true rfl) ?_
  intro p e s m args below meth c A Q H locs ls hx hb hml hown hts hK hN hA hP hD hS hl hend
  have hown : s.vm.findClass RL = some m.cls := hown
  have hl : lv_has ls 2 [(0, .int p1), (1, .ref h0)] := hl
  unfold den_L_mem at hd
  refine lv_aload_n hx hb dL_mem_0 rfl (lv_at hl 1 rfl) ?_
  refine lv_iload_n hx hb dL_mem_1 rfl (lv_at hl 0 rfl) ?_
  refine lv_bipush (v := 8) hx hb dL_mem_2 (by decide) ?_
  refine lv_idiv hx hb dL_mem_4 (by decide) ?_
  obtain ⟨g1, hd⟩ := gd_some hd
  refine x_lald (k := (p1 / (8 : Int32)).toNatClampNeg) hx hb hK hP 0 3 rfl rfl (inb_in g1) rfl dL_mem_5 ?_
  refine lv_bipush (v := 8) hx hb dL_mem_6 (by decide) ?_
  refine lv_iload_n hx hb dL_mem_8 rfl (lv_at hl 0 rfl) ?_
  refine lv_bipush (v := 8) hx hb dL_mem_9 (by decide) ?_
  refine lv_irem hx hb dL_mem_11 (by decide) ?_
  refine lv_imul hx hb dL_mem_12 ?_
  refine lv_lshr (v := ((p2_a (p1 / (8 : Int32)).toNatClampNeg) >>> ((((8 : Int32) * (p1 - p1 / (8 : Int32) * (8 : Int32)))).toInt64 &&& 63))) hx hb dL_mem_13 rfl ?_
  refine lv_l2i (v := (((p2_a (p1 / (8 : Int32)).toNatClampNeg) >>> ((((8 : Int32) * (p1 - p1 / (8 : Int32) * (8 : Int32)))).toInt64 &&& 63))).toInt32) hx hb dL_mem_14 rfl ?_
  refine lv_sipush (v := 255) hx hb dL_mem_15 (by decide) ?_
  refine lv_iand hx hb dL_mem_18 ?_
  cases hd
  exact hend (by rfl) hP hD hS dL_mem_19
def rmL_lay : Room := { frames := 0, cells := 0, slots := 0, locals := 0 }
theorem kL_lay_1 : (Cond.constantLong RL 10 (255)) ∈ wsL_lay := List.mem_of_getElem? (i := 1) (by decide +kernel)
theorem kL_lay_2 : (Cond.constantLong RL 12 (-1)) ∈ wsL_lay := List.mem_of_getElem? (i := 2) (by decide +kernel)
theorem hp_L_lay : yL_lay.cls ≠ "java/lang/invoke/MethodHandle" ∧ yL_lay.cls ≠ "java/lang/invoke/VarHandle" ∧ (parseMethodDescriptor yL_lay.desc).map (fun d => d.parameters.length) = some 3 := by decide +kernel
set_option maxHeartbeats 4000000 in
set_option maxRecDepth 100000 in
theorem c_L_lay (l : Launch) (dC : Nat → ClassId) (dI : Nat → Nat → Nat) (cI cC cT cL : ClassId) (h0 : Nat) (n0 : Nat) (sz : Nat) (p3_a : (Nat → Int64)) (p1 : Int32) (p2 : Int32) (r : (Nat → Int64)) (hd : den_L_lay n0 p3_a p1 p2 = some r) : Met l yL_lay wsL_lay rmL_lay (va_Pc [.int p1, .int p2, .ref h0] (preB sz (dC, dI) [(h0, .inl (cL, n0, .inr (.inl p3_a)))] [(cI, .int), (cC, .char), (cT, .object "CassetteTones$Tape"), (cL, .long)])) (va_Qv (S := Unit) (fun _ => True) (fun _ t => posB (dC, dI) [(h0, .inl (cL, n0, .inr (.inl r)))] [(cI, .int), (cC, .char), (cT, .object "CassetteTones$Tape"), (cL, .long)] (va_A [(h0, .inl (cL, n0, .inr (.inl p3_a)))] sz) t) (va_A [(h0, .inl (cL, n0, .inr (.inl p3_a)))] sz)) 0 0 (va_A [(h0, .inl (cL, n0, .inr (.inl p3_a)))] sz) := by
  refine x_met_v (by decide) rfl (Nat.le_of_ble_eq_true rfl) ?_
  intro p e s m args below meth c A Q H locs ls hx hb hml hown hts hK hN hA hP hD hS hl hend
  have hown : s.vm.findClass RL = some m.cls := hown
  have hl : lv_has ls 3 [(0, .int p1), (1, .int p2), (2, .ref h0)] := hl
  unfold den_L_lay at hd
  refine lv_aload_n hx hb dL_lay_0 rfl (lv_at hl 2 rfl) ?_
  refine lv_iload_n hx hb dL_lay_1 rfl (lv_at hl 0 rfl) ?_
  refine lv_bipush (v := 8) hx hb dL_lay_2 (by decide) ?_
  refine lv_idiv hx hb dL_lay_4 (by decide) ?_
  refine lv_aload_n hx hb dL_lay_5 rfl (lv_at hl 2 rfl) ?_
  refine lv_iload_n hx hb dL_lay_6 rfl (lv_at hl 0 rfl) ?_
  refine lv_bipush (v := 8) hx hb dL_lay_7 (by decide) ?_
  refine lv_idiv hx hb dL_lay_9 (by decide) ?_
  obtain ⟨g1, hd⟩ := gd_some hd
  refine x_lald (k := (p1 / (8 : Int32)).toNatClampNeg) hx hb hK hP 0 3 rfl rfl (inb_in g1) rfl dL_lay_10 ?_
  refine lv_ldc2 (v := 255) hx hb hown (hts _ kL_lay_1) dL_lay_11 ?_
  refine lv_bipush (v := 8) hx hb dL_lay_14 (by decide) ?_
  refine lv_iload_n hx hb dL_lay_16 rfl (lv_at hl 0 rfl) ?_
  refine lv_bipush (v := 8) hx hb dL_lay_17 (by decide) ?_
  refine lv_irem hx hb dL_lay_19 (by decide) ?_
  refine lv_imul hx hb dL_lay_20 ?_
  refine lv_lshl (v := ((255 : Int64) <<< ((((8 : Int32) * (p1 - p1 / (8 : Int32) * (8 : Int32)))).toInt64 &&& 63))) hx hb dL_lay_21 rfl ?_
  refine lv_ldc2 (v := -1) hx hb hown (hts _ kL_lay_2) dL_lay_22 ?_
  refine lv_lxor hx hb dL_lay_25 ?_
  refine lv_land hx hb dL_lay_26 ?_
  refine lv_iload_n hx hb dL_lay_27 rfl (lv_at hl 1 rfl) ?_
  refine lv_i2l (v := (p2).toInt64) hx hb dL_lay_28 rfl ?_
  refine lv_bipush (v := 8) hx hb dL_lay_29 (by decide) ?_
  refine lv_iload_n hx hb dL_lay_31 rfl (lv_at hl 0 rfl) ?_
  refine lv_bipush (v := 8) hx hb dL_lay_32 (by decide) ?_
  refine lv_irem hx hb dL_lay_34 (by decide) ?_
  refine lv_imul hx hb dL_lay_35 ?_
  refine lv_lshl (v := (((p2).toInt64) <<< ((((8 : Int32) * (p1 - p1 / (8 : Int32) * (8 : Int32)))).toInt64 &&& 63))) hx hb dL_lay_36 rfl ?_
  refine lv_lor hx hb dL_lay_37 ?_
  obtain ⟨g2, hd⟩ := gd_some hd
  refine x_last (k := (p1 / (8 : Int32)).toNatClampNeg) hx hb hK hP hD hS 0 3 rfl rfl (inb_in g2) rfl dL_lay_38 (fun H locs hP hD hS => ?_)
  have hP : va_P (dC, dI) vwCl [(h0, .inl (cL, n0, .inr (.inl (vp_updL p3_a (p1 / (8 : Int32)).toNatClampNeg (((p3_a (p1 / (8 : Int32)).toNatClampNeg) &&& (((255 : Int64) <<< ((((8 : Int32) * (p1 - p1 / (8 : Int32) * (8 : Int32)))).toInt64 &&& 63)) ^^^ (-1 : Int64))) ||| (((p2).toInt64) <<< ((((8 : Int32) * (p1 - p1 / (8 : Int32) * (8 : Int32)))).toInt64 &&& 63)))))))] H := hP
  have hD : va_D A [(h0, .inl (cL, n0, .inr (.inl (vp_updL p3_a (p1 / (8 : Int32)).toNatClampNeg (((p3_a (p1 / (8 : Int32)).toNatClampNeg) &&& (((255 : Int64) <<< ((((8 : Int32) * (p1 - p1 / (8 : Int32) * (8 : Int32)))).toInt64 &&& 63)) ^^^ (-1 : Int64))) ||| (((p2).toInt64) <<< ((((8 : Int32) * (p1 - p1 / (8 : Int32) * (8 : Int32)))).toInt64 &&& 63)))))))] := hD
  cases hd
  exact hend hP hD hS dL_lay_39
def rmL_odd : Room := { frames := 0, cells := 0, slots := 0, locals := 0 }
theorem hp_L_odd : yL_odd.cls ≠ "java/lang/invoke/MethodHandle" ∧ yL_odd.cls ≠ "java/lang/invoke/VarHandle" ∧ (parseMethodDescriptor yL_odd.desc).map (fun d => d.parameters.length) = some 1 := by decide +kernel
set_option maxHeartbeats 4000000 in
set_option maxRecDepth 100000 in
theorem c_L_odd (l : Launch) (dC : Nat → ClassId) (dI : Nat → Nat → Nat) (cI cC cT cL : ClassId) (sz : Nat) (p1 : Int32) (r : Int32) (hd : den_L_odd p1 = some r) : Met l yL_odd wsL_odd rmL_odd (va_Pc [.int p1] (preB sz (dC, dI) [] [(cI, .int), (cC, .char), (cT, .object "CassetteTones$Tape"), (cL, .long)])) (va_Qi (S := Unit) (fun v _ => v = r) (fun _ t => posB (dC, dI) [] [(cI, .int), (cC, .char), (cT, .object "CassetteTones$Tape"), (cL, .long)] (va_A [] sz) t) (va_A [] sz)) 0 0 (va_A [] sz) := by
  refine x_met_i (by decide) rfl (Nat.le_of_ble_eq_true rfl) ?_
  intro p e s m args below meth c A Q H locs ls hx hb hml hown hts hK hN hA hP hD hS hl hend
  have hown : s.vm.findClass RL = some m.cls := hown
  have hl : lv_has ls 3 [(0, .int p1)] := hl
  unfold den_L_odd at hd
  refine lv_iconst (v := 0) hx hb dL_odd_0 (by decide) ?_
  refine lv_istore_n (lv' := [(1, .int (0 : Int32)), (0, .int p1)]) hx hb dL_odd_1 rfl hl (by decide) rfl (fun ls hl => ?_)
  refine lv_iload_n hx hb dL_odd_2 rfl (lv_at hl 1 rfl) ?_
  refine lv_istore_n (lv' := [(2, .int p1), (1, .int (0 : Int32)), (0, .int p1)]) hx hb dL_odd_3 rfl hl (by decide) rfl (fun ls hl => ?_)
  obtain ⟨q1, hq1, hd⟩ := bnd_some hd
  have Kq1 : ∀ (H : Heap) (locs : List Loc) (ls : Array Slot), va_P (dC, dI) vwCl [] H → va_D A [] → va_S A s.heap H locs → lv_has ls 3 [(1, .int q1)] → W p l e rmL_odd s m args below meth c H locs 0 0 Q (F0 m 21 ls []) := by
    intro H locs ls hP hD hS hl
    refine lv_iload_n hx hb dL_odd_21 rfl (lv_at hl 0 rfl) ?_
    cases hd
    exact hend (by rfl) hP hD hS dL_odd_22
  clear hd
  have KL3 : ∀ (fu : Nat) (y1_4 : Int32) (y2_4 : Int32) (hd : den_L_odd_L4 fu y1_4 y2_4 = some q1) (H : Heap) (locs : List Loc) (ls : Array Slot), va_P (dC, dI) vwCl [] H → va_D A [] → va_S A s.heap H locs → lv_has ls 3 [(1, .int y1_4), (2, .int y2_4)] → W p l e rmL_odd s m args below meth c H locs 0 0 Q (F0 m 4 ls []) := by
    intro fu
    induction fu with
    | zero => intro y1_4 y2_4 hd; exact no_some hd
    | succ fu ih =>
      intro y1_4 y2_4 hd H locs ls hP hD hS hl
      rw [den_L_odd_L4] at hd
      refine lv_iload_n hx hb dL_odd_4 rfl (lv_at hl 1 rfl) ?_
      refine lv_if_eq (tgt := 21) hx hb dL_odd_5 (by decide) (fun c2 => ?_) (fun c2 => ?_)
      · replace hd := ite_t c2 hd
        cases hd
        exact Kq1 _ _ _ hP hD hS (lv_sub hl [0] rfl)
      · replace hd := ite_f c2 hd
        refine lv_iload_n hx hb dL_odd_8 rfl (lv_at hl 0 rfl) ?_
        refine lv_iconst (v := 1) hx hb dL_odd_9 (by decide) ?_
        refine lv_ixor hx hb dL_odd_10 ?_
        refine lv_istore_n (lv' := [(1, .int (y1_4 ^^^ (1 : Int32))), (2, .int y2_4)]) hx hb dL_odd_11 rfl hl (by decide) rfl (fun ls hl => ?_)
        refine lv_iload_n hx hb dL_odd_12 rfl (lv_at hl 1 rfl) ?_
        refine lv_iload_n hx hb dL_odd_13 rfl (lv_at hl 1 rfl) ?_
        refine lv_iconst (v := 1) hx hb dL_odd_14 (by decide) ?_
        refine lv_isub hx hb dL_odd_15 ?_
        refine lv_iand hx hb dL_odd_16 ?_
        refine lv_istore_n (lv' := [(2, .int (y2_4 &&& (y2_4 - (1 : Int32)))), (1, .int (y1_4 ^^^ (1 : Int32)))]) hx hb dL_odd_17 rfl hl (by decide) rfl (fun ls hl => ?_)
        refine lv_goto (tgt := 4) hx hb dL_odd_18 (by decide) ?_
        exact ih (y1_4 ^^^ (1 : Int32)) (y2_4 &&& (y2_4 - (1 : Int32))) hd _ _ _ hP hD hS (lv_sub hl [1, 0] rfl)
  exact KL3 FU (0 : Int32) p1 hq1 _ _ _ hP hD hS (lv_sub hl [1, 0] rfl)
def rmL_size : Room := { frames := 0, cells := 0, slots := 0, locals := 0 }
theorem hp_L_size : yL_size.cls ≠ "java/lang/invoke/MethodHandle" ∧ yL_size.cls ≠ "java/lang/invoke/VarHandle" ∧ (parseMethodDescriptor yL_size.desc).map (fun d => d.parameters.length) = some 2 := by decide +kernel
set_option maxHeartbeats 4000000 in
set_option maxRecDepth 100000 in
theorem c_L_size (l : Launch) (dC : Nat → ClassId) (dI : Nat → Nat → Nat) (cI cC cT cL : ClassId) (h0 : Nat) (n0 : Nat) (sz : Nat) (p2_a : (Nat → Int32)) (p1 : Int32) (r : Int32) (hd : den_L_size n0 p2_a p1 = some r) : Met l yL_size wsL_size rmL_size (va_Pc [.int p1, .ref h0] (preB sz (dC, dI) [(h0, .inl (cI, n0, .inl p2_a))] [(cI, .int), (cC, .char), (cT, .object "CassetteTones$Tape"), (cL, .long)])) (va_Qi (S := Unit) (fun v _ => v = r) (fun _ t => posB (dC, dI) [(h0, .inl (cI, n0, .inl p2_a))] [(cI, .int), (cC, .char), (cT, .object "CassetteTones$Tape"), (cL, .long)] (va_A [(h0, .inl (cI, n0, .inl p2_a))] sz) t) (va_A [(h0, .inl (cI, n0, .inl p2_a))] sz)) 0 0 (va_A [(h0, .inl (cI, n0, .inl p2_a))] sz) := by
  refine x_met_i (by decide) rfl (Nat.le_of_ble_eq_true rfl) ?_
  intro p e s m args below meth c A Q H locs ls hx hb hml hown hts hK hN hA hP hD hS hl hend
  have hown : s.vm.findClass RL = some m.cls := hown
  have hl : lv_has ls 2 [(0, .int p1), (1, .ref h0)] := hl
  unfold den_L_size at hd
  refine lv_bipush (v := 13) hx hb dL_size_0 (by decide) ?_
  refine lv_bipush (v := 9) hx hb dL_size_2 (by decide) ?_
  refine lv_aload_n hx hb dL_size_4 rfl (lv_at hl 1 rfl) ?_
  refine lv_bipush (v := 8) hx hb dL_size_5 (by decide) ?_
  refine lv_iload_n hx hb dL_size_7 rfl (lv_at hl 0 rfl) ?_
  refine lv_imul hx hb dL_size_8 ?_
  refine lv_iconst (v := 2) hx hb dL_size_9 (by decide) ?_
  refine lv_iadd hx hb dL_size_10 ?_
  obtain ⟨g1, hd⟩ := gd_some hd
  refine x_iald (k := (((8 : Int32) * p1) + (2 : Int32)).toNatClampNeg) hx hb hK hP 0 0 rfl rfl (inb_in g1) rfl dL_size_11 ?_
  refine lv_imul hx hb dL_size_12 ?_
  refine lv_iadd hx hb dL_size_13 ?_
  cases hd
  exact hend (by rfl) hP hD hS dL_size_14
def rmL_sum : Room := { frames := 0, cells := 0, slots := 0, locals := 0 }
theorem hp_L_sum : yL_sum.cls ≠ "java/lang/invoke/MethodHandle" ∧ yL_sum.cls ≠ "java/lang/invoke/VarHandle" ∧ (parseMethodDescriptor yL_sum.desc).map (fun d => d.parameters.length) = some 2 := by decide +kernel
set_option maxHeartbeats 4000000 in
set_option maxRecDepth 100000 in
theorem c_L_sum (l : Launch) (dC : Nat → ClassId) (dI : Nat → Nat → Nat) (cI cC cT cL : ClassId) (h0 : Nat) (n0 : Nat) (sz : Nat) (p2_a : (Nat → Int32)) (p1 : Int32) (r : Int32) (hd : den_L_sum n0 p2_a p1 = some r) : Met l yL_sum wsL_sum rmL_sum (va_Pc [.int p1, .ref h0] (preB sz (dC, dI) [(h0, .inl (cI, n0, .inl p2_a))] [(cI, .int), (cC, .char), (cT, .object "CassetteTones$Tape"), (cL, .long)])) (va_Qi (S := Unit) (fun v _ => v = r) (fun _ t => posB (dC, dI) [(h0, .inl (cI, n0, .inl p2_a))] [(cI, .int), (cC, .char), (cT, .object "CassetteTones$Tape"), (cL, .long)] (va_A [(h0, .inl (cI, n0, .inl p2_a))] sz) t) (va_A [(h0, .inl (cI, n0, .inl p2_a))] sz)) 0 0 (va_A [(h0, .inl (cI, n0, .inl p2_a))] sz) := by
  refine x_met_i (by decide) rfl (Nat.le_of_ble_eq_true rfl) ?_
  intro p e s m args below meth c A Q H locs ls hx hb hml hown hts hK hN hA hP hD hS hl hend
  have hown : s.vm.findClass RL = some m.cls := hown
  have hl : lv_has ls 2 [(0, .int p1), (1, .ref h0)] := hl
  unfold den_L_sum at hd
  refine lv_aload_n hx hb dL_sum_0 rfl (lv_at hl 1 rfl) ?_
  refine lv_bipush (v := 8) hx hb dL_sum_1 (by decide) ?_
  refine lv_iload_n hx hb dL_sum_3 rfl (lv_at hl 0 rfl) ?_
  refine lv_imul hx hb dL_sum_4 ?_
  refine lv_iconst (v := 4) hx hb dL_sum_5 (by decide) ?_
  refine lv_iadd hx hb dL_sum_6 ?_
  obtain ⟨g1, hd⟩ := gd_some hd
  refine x_iald (k := (((8 : Int32) * p1) + (4 : Int32)).toNatClampNeg) hx hb hK hP 0 0 rfl rfl (inb_in g1) rfl dL_sum_7 ?_
  refine lv_aload_n hx hb dL_sum_8 rfl (lv_at hl 1 rfl) ?_
  refine lv_bipush (v := 8) hx hb dL_sum_9 (by decide) ?_
  refine lv_iload_n hx hb dL_sum_11 rfl (lv_at hl 0 rfl) ?_
  refine lv_imul hx hb dL_sum_12 ?_
  refine lv_iconst (v := 5) hx hb dL_sum_13 (by decide) ?_
  refine lv_iadd hx hb dL_sum_14 ?_
  obtain ⟨g2, hd⟩ := gd_some hd
  refine x_iald (k := (((8 : Int32) * p1) + (5 : Int32)).toNatClampNeg) hx hb hK hP 0 0 rfl rfl (inb_in g2) rfl dL_sum_15 ?_
  refine lv_iadd hx hb dL_sum_16 ?_
  refine lv_aload_n hx hb dL_sum_17 rfl (lv_at hl 1 rfl) ?_
  refine lv_bipush (v := 8) hx hb dL_sum_18 (by decide) ?_
  refine lv_iload_n hx hb dL_sum_20 rfl (lv_at hl 0 rfl) ?_
  refine lv_imul hx hb dL_sum_21 ?_
  refine lv_bipush (v := 6) hx hb dL_sum_22 (by decide) ?_
  refine lv_iadd hx hb dL_sum_24 ?_
  obtain ⟨g3, hd⟩ := gd_some hd
  refine x_iald (k := (((8 : Int32) * p1) + (6 : Int32)).toNatClampNeg) hx hb hK hP 0 0 rfl rfl (inb_in g3) rfl dL_sum_25 ?_
  refine lv_iadd hx hb dL_sum_26 ?_
  refine lv_sipush (v := 255) hx hb dL_sum_27 (by decide) ?_
  refine lv_iand hx hb dL_sum_30 ?_
  cases hd
  exact hend (by rfl) hP hD hS dL_sum_31
def rmL_nine : Room := { frames := 1, cells := 0, slots := 0, locals := 22 }
theorem hp_L_nine : yL_nine.cls ≠ "java/lang/invoke/MethodHandle" ∧ yL_nine.cls ≠ "java/lang/invoke/VarHandle" ∧ (parseMethodDescriptor yL_nine.desc).map (fun d => d.parameters.length) = some 5 := by decide +kernel
set_option maxHeartbeats 4000000 in
set_option maxRecDepth 100000 in
theorem c_L_nine (l : Launch) (dC : Nat → ClassId) (dI : Nat → Nat → Nat) (cI cC cT cL : ClassId) (h0 h1 : Nat) (n0 n1 : Nat) (sz : Nat) (p4_a : (Nat → Int32)) (p5_a : (Nat → Int64)) (p1 : Int32) (p2 : Int32) (p3 : Int32) (r : Int32) (hd : den_L_nine n0 n1 p4_a p5_a p1 p2 p3 = some r) : Met l yL_nine wsL_nine rmL_nine (va_Pc [.int p1, .int p2, .int p3, .ref h0, .ref h1] (preB sz (dC, dI) [(h0, .inl (cI, n0, .inl p4_a)), (h1, .inl (cL, n1, .inr (.inl p5_a)))] [(cI, .int), (cC, .char), (cT, .object "CassetteTones$Tape"), (cL, .long)])) (va_Qi (S := Unit) (fun v _ => v = r) (fun _ t => posB (dC, dI) [(h0, .inl (cI, n0, .inl p4_a)), (h1, .inl (cL, n1, .inr (.inl p5_a)))] [(cI, .int), (cC, .char), (cT, .object "CassetteTones$Tape"), (cL, .long)] (va_A [(h0, .inl (cI, n0, .inl p4_a)), (h1, .inl (cL, n1, .inr (.inl p5_a)))] sz) t) (va_A [(h0, .inl (cI, n0, .inl p4_a)), (h1, .inl (cL, n1, .inr (.inl p5_a)))] sz)) 0 0 (va_A [(h0, .inl (cI, n0, .inl p4_a)), (h1, .inl (cL, n1, .inr (.inl p5_a)))] sz) := by
  refine x_met_i (by decide) rfl (Nat.le_of_ble_eq_true rfl) ?_
  intro p e s m args below meth c A Q H locs ls hx hb hml hown hts hK hN hA hP hD hS hl hend
  have hown : s.vm.findClass RL = some m.cls := hown
  have hl : lv_has ls 9 [(0, .int p1), (1, .int p2), (2, .int p3), (3, .ref h0), (4, .ref h1)] := hl
  unfold den_L_nine at hd
  refine lv_iload_n hx hb dL_nine_0 rfl (lv_at hl 2 rfl) ?_
  refine lv_aload_n hx hb dL_nine_1 rfl (lv_at hl 3 rfl) ?_
  refine lv_bipush (v := 8) hx hb dL_nine_2 (by decide) ?_
  refine lv_iload_n hx hb dL_nine_4 rfl (lv_at hl 0 rfl) ?_
  refine lv_imul hx hb dL_nine_5 ?_
  refine lv_iconst (v := 2) hx hb dL_nine_6 (by decide) ?_
  refine lv_iadd hx hb dL_nine_7 ?_
  obtain ⟨g1, hd⟩ := gd_some hd
  refine x_iald (k := (((8 : Int32) * p1) + (2 : Int32)).toNatClampNeg) hx hb hK hP 0 0 rfl rfl (inb_in g1) rfl dL_nine_8 ?_
  obtain ⟨q2, hq2, hd⟩ := bnd_some hd
  have Kq2 : ∀ (H : Heap) (locs : List Loc) (ls : Array Slot), va_P (dC, dI) vwCl [(h0, .inl (cI, n0, .inl p4_a)), (h1, .inl (cL, n1, .inr (.inl p5_a)))] H → va_D A [(h0, .inl (cI, n0, .inl p4_a)), (h1, .inl (cL, n1, .inr (.inl p5_a)))] → va_S A s.heap H locs → lv_has ls 9 [(0, .int p1), (1, .int p2), (2, .int p3), (3, .ref h0), (4, .ref h1)] → W p l e rmL_nine s m args below meth c H locs 0 0 Q (F0 m 30 ls [.int q2]) := by
    intro H locs ls hP hD hS hl
    refine lv_istore (lv' := [(5, .int q2), (0, .int p1), (1, .int p2), (2, .int p3), (3, .ref h0), (4, .ref h1)]) hx hb dL_nine_30 hl (by decide) rfl (fun ls hl => ?_)
    refine lv_iload hx hb dL_nine_32 (lv_at hl 0 rfl) ?_
    refine lv_iload hx hb dL_nine_34 (lv_at hl 0 rfl) ?_
    obtain ⟨q3, hq3, hd⟩ := bnd_some hd
    have hPc : va_P (dC, dI) vwCl [] _ := hP.sub [] rfl
    have hDc := hD.sub (ws' := []) [] (by decide) rfl
    have hFc := va_free (wc := []) hD hS hA [] rfl
    refine va_calli (va_runS (As := [.int q2]) (rest := [.int q2]) ⟨hx, hb, hml, hown, hts⟩ (c_L_odd l dC dI cI cC cT cL H.size q2 q3 hq3) (va_cwS 1 hts gL_nine_L_odd rfl rfl rfl hp_L_odd ⟨Nat.le_of_ble_eq_true rfl, Nat.le_of_ble_eq_true rfl⟩) ⟨preB_fb, fun U hU hW => preB_mk hU hW hPc hK hDc hN⟩ rfl rfl hl.1 rfl (lv_room (Nat.le_of_ble_eq_true rfl)) dL_nine_36 ⟨Nat.zero_le _, Nat.zero_le _⟩) hS (fun q _ h => hFc q h) hFc (fun r_ u_ t H locs ht hvm hw hB hz1 hk1 hS => ?_)
    have hw : r_ = q3 := hw
    have hw := hw.symm
    subst hw
    obtain ⟨hP, hD⟩ := x_join (ws' := [(h0, .inl (cI, n0, .inl p4_a)), (h1, .inl (cL, n1, .inr (.inl p5_a)))]) hP hD [] [0, 1] rfl rfl (by decide) (by decide) hk1 hFc ht hB [0, 1] (by decide) rfl
    clear hPc hDc hFc hk1 hB ht hz1 hvm
    refine lv_bipush (v := 8) hx hb dL_nine_39 (by decide) ?_
    refine lv_ishl hx hb dL_nine_41 ?_
    refine lv_ior hx hb dL_nine_42 ?_
    refine lv_istore (lv' := [(6, .int (q2 ||| (q3 <<< ((8 : Int32) &&& 31)))), (5, .int q2), (0, .int p1), (1, .int p2), (2, .int p3), (3, .ref h0), (4, .ref h1)]) hx hb dL_nine_43 hl (by decide) rfl (fun ls hl => ?_)
    refine lv_aload_n hx hb dL_nine_45 rfl (lv_at hl 5 rfl) ?_
    refine lv_bipush (v := 8) hx hb dL_nine_46 (by decide) ?_
    refine lv_iload_n hx hb dL_nine_48 rfl (lv_at hl 2 rfl) ?_
    refine lv_imul hx hb dL_nine_49 ?_
    refine lv_iconst (v := 3) hx hb dL_nine_50 (by decide) ?_
    refine lv_iadd hx hb dL_nine_51 ?_
    obtain ⟨g4, hd⟩ := gd_some hd
    refine x_iald (k := (((8 : Int32) * p1) + (3 : Int32)).toNatClampNeg) hx hb hK hP 0 0 rfl rfl (inb_in g4) rfl dL_nine_52 ?_
    refine lv_iload_n hx hb dL_nine_53 rfl (lv_at hl 3 rfl) ?_
    refine lv_iload_n hx hb dL_nine_54 rfl (lv_at hl 2 rfl) ?_
    refine lv_aload_n hx hb dL_nine_55 rfl (lv_at hl 5 rfl) ?_
    obtain ⟨q5, hq5, hd⟩ := bnd_some hd
    have hPc : va_P (dC, dI) vwCl [(h0, .inl (cI, n0, .inl p4_a))] _ := hP.sub [0] rfl
    have hDc := hD.sub (ws' := [(h0, .inl (cI, n0, .inl p4_a))]) [0] (by decide) rfl
    have hFc := va_free (wc := [(h0, .inl (cI, n0, .inl p4_a))]) hD hS hA [0] rfl
    refine va_calli (va_runS (As := [.int p1, .ref h0]) (rest := [.int p2, .int (p4_a (((8 : Int32) * p1) + (3 : Int32)).toNatClampNeg)]) ⟨hx, hb, hml, hown, hts⟩ (c_L_size l dC dI cI cC cT cL h0 n0 H.size p4_a p1 q5 hq5) (va_cwS 2 hts gL_nine_L_size rfl rfl rfl hp_L_size ⟨Nat.le_of_ble_eq_true rfl, Nat.le_of_ble_eq_true rfl⟩) ⟨preB_fb, fun U hU hW => preB_mk hU hW hPc hK hDc hN⟩ rfl rfl hl.1 rfl (lv_room (Nat.le_of_ble_eq_true rfl)) dL_nine_56 ⟨Nat.zero_le _, Nat.zero_le _⟩) hS (fun q _ h => hFc q h) hFc (fun r_ u_ t H locs ht hvm hw hB hz1 hk1 hS => ?_)
    have hw : r_ = q5 := hw
    have hw := hw.symm
    subst hw
    obtain ⟨hP, hD⟩ := x_join (ws' := [(h0, .inl (cI, n0, .inl p4_a)), (h1, .inl (cL, n1, .inr (.inl p5_a)))]) hP hD [0] [1] rfl rfl (by decide) (by decide) hk1 hFc ht hB [1, 0] (by decide) rfl
    clear hPc hDc hFc hk1 hB ht hz1 hvm
    refine lv_imul hx hb dL_nine_59 ?_
    refine lv_iadd hx hb dL_nine_60 ?_
    refine lv_iconst (v := 4) hx hb dL_nine_61 (by decide) ?_
    refine lv_iadd hx hb dL_nine_62 ?_
    refine lv_bipush (v := 9) hx hb dL_nine_63 (by decide) ?_
    refine lv_iload_n hx hb dL_nine_65 rfl (lv_at hl 4 rfl) ?_
    refine lv_imul hx hb dL_nine_66 ?_
    refine lv_iadd hx hb dL_nine_67 ?_
    refine lv_topi (fun x6 ex6 => ?_)
    replace hd := nm_some ex6 hd
    refine lv_istore (lv' := [(7, .int x6), (6, .int (q2 ||| (q3 <<< ((8 : Int32) &&& 31)))), (5, .int q2), (0, .int p1), (1, .int p2), (2, .int p3), (3, .ref h0), (4, .ref h1)]) hx hb dL_nine_68 hl (by decide) rfl (fun ls hl => ?_)
    refine lv_iconst (v := 0) hx hb dL_nine_70 (by decide) ?_
    refine lv_istore (lv' := [(8, .int (0 : Int32)), (7, .int x6), (6, .int (q2 ||| (q3 <<< ((8 : Int32) &&& 31)))), (5, .int q2), (0, .int p1), (1, .int p2), (2, .int p3), (3, .ref h0), (4, .ref h1)]) hx hb dL_nine_71 hl (by decide) rfl (fun ls hl => ?_)
    obtain ⟨q7, hq7, hd⟩ := bnd_some hd
    have Kq7 : ∀ (H : Heap) (locs : List Loc) (ls : Array Slot), va_P (dC, dI) vwCl [(h0, .inl (cI, n0, .inl p4_a)), (h1, .inl (cL, n1, .inr (.inl p5_a)))] H → va_D A [(h0, .inl (cI, n0, .inl p4_a)), (h1, .inl (cL, n1, .inr (.inl p5_a)))] → va_S A s.heap H locs → lv_has ls 9 [(6, .int q7)] → W p l e rmL_nine s m args below meth c H locs 0 0 Q (F0 m 108 ls []) := by
      intro H locs ls hP hD hS hl
      refine lv_iload hx hb dL_nine_108 (lv_at hl 0 rfl) ?_
      cases hd
      exact hend (by rfl) hP hD hS dL_nine_110
    clear hd
    have KL11 : ∀ (fu : Nat) (y6_73 : Int32) (y8_73 : Int32) (hd : den_L_nine_L73 n1 p5_a x6 fu y6_73 y8_73 = some q7) (H : Heap) (locs : List Loc) (ls : Array Slot), va_P (dC, dI) vwCl [(h0, .inl (cI, n0, .inl p4_a)), (h1, .inl (cL, n1, .inr (.inl p5_a)))] H → va_D A [(h0, .inl (cI, n0, .inl p4_a)), (h1, .inl (cL, n1, .inr (.inl p5_a)))] → va_S A s.heap H locs → lv_has ls 9 [(4, .ref h1), (6, .int y6_73), (7, .int x6), (8, .int y8_73)] → W p l e rmL_nine s m args below meth c H locs 0 0 Q (F0 m 73 ls []) := by
      intro fu
      induction fu with
      | zero => intro y6_73 y8_73 hd; exact no_some hd
      | succ fu ih =>
        intro y6_73 y8_73 hd H locs ls hP hD hS hl
        rw [den_L_nine_L73] at hd
        refine lv_iload hx hb dL_nine_73 (lv_at hl 3 rfl) ?_
        refine lv_bipush (v := 9) hx hb dL_nine_75 (by decide) ?_
        refine lv_icmp_ge (tgt := 108) hx hb dL_nine_77 (by decide) (fun c8 => ?_) (fun c8 => ?_)
        · replace hd := ite_t c8 hd
          cases hd
          exact Kq7 _ _ _ hP hD hS (lv_sub hl [1] rfl)
        · replace hd := ite_f c8 hd
          refine lv_iload hx hb dL_nine_80 (lv_at hl 1 rfl) ?_
          refine lv_iload hx hb dL_nine_82 (lv_at hl 2 rfl) ?_
          refine lv_iload hx hb dL_nine_84 (lv_at hl 3 rfl) ?_
          refine lv_iadd hx hb dL_nine_86 ?_
          refine lv_aload hx hb dL_nine_87 (lv_at hl 0 rfl) ?_
          obtain ⟨q9, hq9, hd⟩ := bnd_some hd
          have hPc : va_P (dC, dI) vwCl [(h1, .inl (cL, n1, .inr (.inl p5_a)))] _ := hP.sub [1] rfl
          have hDc := hD.sub (ws' := [(h1, .inl (cL, n1, .inr (.inl p5_a)))]) [1] (by decide) rfl
          have hFc := va_free (wc := [(h1, .inl (cL, n1, .inr (.inl p5_a)))]) hD hS hA [1] rfl
          refine va_calli (va_runS (As := [.int (x6 + y8_73), .ref h1]) (rest := [.int y6_73]) ⟨hx, hb, hml, hown, hts⟩ (c_L_mem l dC dI cI cC cT cL h1 n1 H.size p5_a (x6 + y8_73) q9 hq9) (va_cwS 2 hts gL_nine_L_mem rfl rfl rfl hp_L_mem ⟨Nat.le_of_ble_eq_true rfl, Nat.le_of_ble_eq_true rfl⟩) ⟨preB_fb, fun U hU hW => preB_mk hU hW hPc hK hDc hN⟩ rfl rfl hl.1 rfl (lv_room (Nat.le_of_ble_eq_true rfl)) dL_nine_89 ⟨Nat.zero_le _, Nat.zero_le _⟩) hS (fun q _ h => hFc q h) hFc (fun r_ u_ t H locs ht hvm hw hB hz1 hk1 hS => ?_)
          have hw : r_ = q9 := hw
          have hw := hw.symm
          subst hw
          obtain ⟨hP, hD⟩ := x_join (ws' := [(h0, .inl (cI, n0, .inl p4_a)), (h1, .inl (cL, n1, .inr (.inl p5_a)))]) hP hD [1] [0] rfl rfl (by decide) (by decide) hk1 hFc ht hB [0, 1] (by decide) rfl
          clear hPc hDc hFc hk1 hB ht hz1 hvm
          refine lv_sipush (v := 128) hx hb dL_nine_92 (by decide) ?_
          refine lv_idiv hx hb dL_nine_95 (by decide) ?_
          refine lv_iload hx hb dL_nine_96 (lv_at hl 3 rfl) ?_
          refine lv_ishl hx hb dL_nine_98 ?_
          refine lv_ixor hx hb dL_nine_99 ?_
          refine lv_topi (fun x10 ex10 => ?_)
          replace hd := nm_some ex10 hd
          refine lv_istore (lv' := [(6, .int x10), (4, .ref h1), (7, .int x6), (8, .int y8_73)]) hx hb dL_nine_100 hl (by decide) rfl (fun ls hl => ?_)
          refine lv_iinc (v := (y8_73 + (1 : Int32))) (lv' := [(8, .int (y8_73 + (1 : Int32))), (6, .int x10), (4, .ref h1), (7, .int x6)]) hx hb dL_nine_102 hl (k := 3) rfl (by first | rfl | decide) (by decide) rfl (fun ls hl => ?_)
          refine lv_goto (tgt := 73) hx hb dL_nine_105 (by decide) ?_
          exact ih x10 (y8_73 + (1 : Int32)) hd _ _ _ hP hD hS (lv_sub hl [2, 1, 3, 0] rfl)
    exact KL11 FU (q2 ||| (q3 <<< ((8 : Int32) &&& 31))) (0 : Int32) hq7 _ _ _ hP hD hS (lv_sub hl [8, 2, 1, 0] rfl)
  replace hd := hq2
  clear hq2
  refine lv_icmp_ne (tgt := 20) hx hb dL_nine_9 (by decide) (fun c12 => ?_) (fun c12 => ?_)
  · replace hd := ite_f c12 hd
    refine lv_aload_n hx hb dL_nine_20 rfl (lv_at hl 3 rfl) ?_
    refine lv_bipush (v := 8) hx hb dL_nine_21 (by decide) ?_
    refine lv_iload_n hx hb dL_nine_23 rfl (lv_at hl 0 rfl) ?_
    refine lv_imul hx hb dL_nine_24 ?_
    refine lv_iconst (v := 4) hx hb dL_nine_25 (by decide) ?_
    refine lv_iadd hx hb dL_nine_26 ?_
    refine lv_iload_n hx hb dL_nine_27 rfl (lv_at hl 2 rfl) ?_
    refine lv_iadd hx hb dL_nine_28 ?_
    obtain ⟨g13, hd⟩ := gd_some hd
    refine x_iald (k := ((((8 : Int32) * p1) + (4 : Int32)) + p3).toNatClampNeg) hx hb hK hP 0 0 rfl rfl (inb_in g13) rfl dL_nine_29 ?_
    cases hd
    exact Kq2 _ _ _ hP hD hS (lv_sub hl [0, 1, 2, 3, 4] rfl)
  · replace hd := ite_t c12 hd
    refine lv_iload_n hx hb dL_nine_12 rfl (lv_at hl 0 rfl) ?_
    refine lv_aload_n hx hb dL_nine_13 rfl (lv_at hl 3 rfl) ?_
    obtain ⟨q14, hq14, hd⟩ := bnd_some hd
    have hPc : va_P (dC, dI) vwCl [(h0, .inl (cI, n0, .inl p4_a))] _ := hP.sub [0] rfl
    have hDc := hD.sub (ws' := [(h0, .inl (cI, n0, .inl p4_a))]) [0] (by decide) rfl
    have hFc := va_free (wc := [(h0, .inl (cI, n0, .inl p4_a))]) hD hS hA [0] rfl
    refine va_calli (va_runS (As := [.int p1, .ref h0]) (rest := []) ⟨hx, hb, hml, hown, hts⟩ (c_L_sum l dC dI cI cC cT cL h0 n0 H.size p4_a p1 q14 hq14) (va_cwS 2 hts gL_nine_L_sum rfl rfl rfl hp_L_sum ⟨Nat.le_of_ble_eq_true rfl, Nat.le_of_ble_eq_true rfl⟩) ⟨preB_fb, fun U hU hW => preB_mk hU hW hPc hK hDc hN⟩ rfl rfl hl.1 rfl (lv_room (Nat.le_of_ble_eq_true rfl)) dL_nine_14 ⟨Nat.zero_le _, Nat.zero_le _⟩) hS (fun q _ h => hFc q h) hFc (fun r_ u_ t H locs ht hvm hw hB hz1 hk1 hS => ?_)
    have hw : r_ = q14 := hw
    have hw := hw.symm
    subst hw
    obtain ⟨hP, hD⟩ := x_join (ws' := [(h0, .inl (cI, n0, .inl p4_a)), (h1, .inl (cL, n1, .inr (.inl p5_a)))]) hP hD [0] [1] rfl rfl (by decide) (by decide) hk1 hFc ht hB [1, 0] (by decide) rfl
    clear hPc hDc hFc hk1 hB ht hz1 hvm
    refine lv_goto (tgt := 30) hx hb dL_nine_17 (by decide) ?_
    cases hd
    exact Kq2 _ _ _ hP hD hS (lv_sub hl [0, 1, 2, 3, 4] rfl)
def rmL_byteOf : Room := { frames := 2, cells := 0, slots := 0, locals := 50 }
theorem hp_L_byteOf : yL_byteOf.cls ≠ "java/lang/invoke/MethodHandle" ∧ yL_byteOf.cls ≠ "java/lang/invoke/VarHandle" ∧ (parseMethodDescriptor yL_byteOf.desc).map (fun d => d.parameters.length) = some 6 := by decide +kernel
set_option maxHeartbeats 4000000 in
set_option maxRecDepth 100000 in
theorem c_L_byteOf (l : Launch) (dC : Nat → ClassId) (dI : Nat → Nat → Nat) (cI cC cT cL : ClassId) (h0 h1 : Nat) (n0 n1 : Nat) (sz : Nat) (p5_a : (Nat → Int32)) (p6_a : (Nat → Int64)) (p1 : Int32) (p2 : Int32) (p3 : Int32) (p4 : Int32) (r : Int32) (hd : den_L_byteOf n0 n1 p5_a p6_a p1 p2 p3 p4 = some r) : Met l yL_byteOf wsL_byteOf rmL_byteOf (va_Pc [.int p1, .int p2, .int p3, .int p4, .ref h0, .ref h1] (preB sz (dC, dI) [(h0, .inl (cI, n0, .inl p5_a)), (h1, .inl (cL, n1, .inr (.inl p6_a)))] [(cI, .int), (cC, .char), (cT, .object "CassetteTones$Tape"), (cL, .long)])) (va_Qi (S := Unit) (fun v _ => v = r) (fun _ t => posB (dC, dI) [(h0, .inl (cI, n0, .inl p5_a)), (h1, .inl (cL, n1, .inr (.inl p6_a)))] [(cI, .int), (cC, .char), (cT, .object "CassetteTones$Tape"), (cL, .long)] (va_A [(h0, .inl (cI, n0, .inl p5_a)), (h1, .inl (cL, n1, .inr (.inl p6_a)))] sz) t) (va_A [(h0, .inl (cI, n0, .inl p5_a)), (h1, .inl (cL, n1, .inr (.inl p6_a)))] sz)) 0 0 (va_A [(h0, .inl (cI, n0, .inl p5_a)), (h1, .inl (cL, n1, .inr (.inl p6_a)))] sz) := by
  refine x_met_i (by decide) rfl (Nat.le_of_ble_eq_true rfl) ?_
  intro p e s m args below meth c A Q H locs ls hx hb hml hown hts hK hN hA hP hD hS hl hend
  have hown : s.vm.findClass RL = some m.cls := hown
  have hl : lv_has ls 8 [(0, .int p1), (1, .int p2), (2, .int p3), (3, .int p4), (4, .ref h0), (5, .ref h1)] := hl
  unfold den_L_byteOf at hd
  refine lv_aload hx hb dL_byteOf_0 (lv_at hl 4 rfl) ?_
  refine lv_bipush (v := 8) hx hb dL_byteOf_2 (by decide) ?_
  refine lv_iload_n hx hb dL_byteOf_4 rfl (lv_at hl 0 rfl) ?_
  refine lv_imul hx hb dL_byteOf_5 ?_
  refine lv_iconst (v := 3) hx hb dL_byteOf_6 (by decide) ?_
  refine lv_iadd hx hb dL_byteOf_7 ?_
  obtain ⟨g1, hd⟩ := gd_some hd
  refine x_iald (k := (((8 : Int32) * p1) + (3 : Int32)).toNatClampNeg) hx hb hK hP 0 0 rfl rfl (inb_in g1) rfl dL_byteOf_8 ?_
  refine lv_iload_n hx hb dL_byteOf_9 rfl (lv_at hl 1 rfl) ?_
  refine lv_iload_n hx hb dL_byteOf_10 rfl (lv_at hl 0 rfl) ?_
  refine lv_aload hx hb dL_byteOf_11 (lv_at hl 4 rfl) ?_
  obtain ⟨q2, hq2, hd⟩ := bnd_some hd
  have hPc : va_P (dC, dI) vwCl [(h0, .inl (cI, n0, .inl p5_a))] _ := hP.sub [0] rfl
  have hDc := hD.sub (ws' := [(h0, .inl (cI, n0, .inl p5_a))]) [0] (by decide) rfl
  have hFc := va_free (wc := [(h0, .inl (cI, n0, .inl p5_a))]) hD hS hA [0] rfl
  refine va_calli (va_runS (As := [.int p1, .ref h0]) (rest := [.int p2, .int (p5_a (((8 : Int32) * p1) + (3 : Int32)).toNatClampNeg)]) ⟨hx, hb, hml, hown, hts⟩ (c_L_size l dC dI cI cC cT cL h0 n0 H.size p5_a p1 q2 hq2) (va_cwS 2 hts gL_byteOf_L_size rfl rfl rfl hp_L_size ⟨Nat.le_of_ble_eq_true rfl, Nat.le_of_ble_eq_true rfl⟩) ⟨preB_fb, fun U hU hW => preB_mk hU hW hPc hK hDc hN⟩ rfl rfl hl.1 rfl (lv_room (Nat.le_of_ble_eq_true rfl)) dL_byteOf_13 ⟨Nat.zero_le _, Nat.zero_le _⟩) hS (fun q _ h => hFc q h) hFc (fun r_ u_ t H locs ht hvm hw hB hz1 hk1 hS => ?_)
  have hw : r_ = q2 := hw
  have hw := hw.symm
  subst hw
  obtain ⟨hP, hD⟩ := x_join (ws' := [(h0, .inl (cI, n0, .inl p5_a)), (h1, .inl (cL, n1, .inr (.inl p6_a)))]) hP hD [0] [1] rfl rfl (by decide) (by decide) hk1 hFc ht hB [1, 0] (by decide) rfl
  clear hPc hDc hFc hk1 hB ht hz1 hvm
  refine lv_imul hx hb dL_byteOf_16 ?_
  refine lv_iadd hx hb dL_byteOf_17 ?_
  refine lv_iconst (v := 4) hx hb dL_byteOf_18 (by decide) ?_
  refine lv_iadd hx hb dL_byteOf_19 ?_
  refine lv_bipush (v := 9) hx hb dL_byteOf_20 (by decide) ?_
  refine lv_iload_n hx hb dL_byteOf_22 rfl (lv_at hl 2 rfl) ?_
  refine lv_imul hx hb dL_byteOf_23 ?_
  refine lv_iadd hx hb dL_byteOf_24 ?_
  refine lv_topi (fun x3 ex3 => ?_)
  replace hd := nm_some ex3 hd
  refine lv_istore (lv' := [(6, .int x3), (0, .int p1), (1, .int p2), (2, .int p3), (3, .int p4), (4, .ref h0), (5, .ref h1)]) hx hb dL_byteOf_25 hl (by decide) rfl (fun ls hl => ?_)
  refine lv_iconst (v := 0) hx hb dL_byteOf_27 (by decide) ?_
  refine lv_istore (lv' := [(7, .int (0 : Int32)), (6, .int x3), (0, .int p1), (1, .int p2), (2, .int p3), (3, .int p4), (4, .ref h0), (5, .ref h1)]) hx hb dL_byteOf_28 hl (by decide) rfl (fun ls hl => ?_)
  have KL10 : ∀ (fu : Nat) (y7_30 : Int32) (hd : den_L_byteOf_L30 p1 p2 p3 p4 n0 n1 p5_a p6_a x3 fu y7_30 = some r) (H : Heap) (locs : List Loc) (ls : Array Slot), va_P (dC, dI) vwCl [(h0, .inl (cI, n0, .inl p5_a)), (h1, .inl (cL, n1, .inr (.inl p6_a)))] H → va_D A [(h0, .inl (cI, n0, .inl p5_a)), (h1, .inl (cL, n1, .inr (.inl p6_a)))] → va_S A s.heap H locs → lv_has ls 8 [(0, .int p1), (1, .int p2), (2, .int p3), (3, .int p4), (4, .ref h0), (5, .ref h1), (6, .int x3), (7, .int y7_30)] → W p l e rmL_byteOf s m args below meth c H locs 0 0 Q (F0 m 30 ls []) := by
    intro fu
    induction fu with
    | zero => intro y7_30 hd; exact no_some hd
    | succ fu ih =>
      intro y7_30 hd H locs ls hP hD hS hl
      rw [den_L_byteOf_L30] at hd
      refine lv_iload hx hb dL_byteOf_30 (lv_at hl 7 rfl) ?_
      refine lv_bipush (v := 9) hx hb dL_byteOf_32 (by decide) ?_
      refine lv_icmp_ge (tgt := 64) hx hb dL_byteOf_34 (by decide) (fun c4 => ?_) (fun c4 => ?_)
      · replace hd := ite_t c4 hd
        refine lv_iload_n hx hb dL_byteOf_64 rfl (lv_at hl 0 rfl) ?_
        refine lv_iload_n hx hb dL_byteOf_65 rfl (lv_at hl 1 rfl) ?_
        refine lv_iload_n hx hb dL_byteOf_66 rfl (lv_at hl 2 rfl) ?_
        refine lv_aload hx hb dL_byteOf_67 (lv_at hl 4 rfl) ?_
        refine lv_aload hx hb dL_byteOf_69 (lv_at hl 5 rfl) ?_
        obtain ⟨q5, hq5, hd⟩ := bnd_some hd
        have hPc : va_P (dC, dI) vwCl [(h0, .inl (cI, n0, .inl p5_a)), (h1, .inl (cL, n1, .inr (.inl p6_a)))] _ := hP.sub [0, 1] rfl
        have hDc := hD.sub (ws' := [(h0, .inl (cI, n0, .inl p5_a)), (h1, .inl (cL, n1, .inr (.inl p6_a)))]) [0, 1] (by decide) rfl
        have hFc := va_free (wc := [(h0, .inl (cI, n0, .inl p5_a)), (h1, .inl (cL, n1, .inr (.inl p6_a)))]) hD hS hA [0, 1] rfl
        refine va_calli (va_runS (As := [.int p1, .int p2, .int p3, .ref h0, .ref h1]) (rest := []) ⟨hx, hb, hml, hown, hts⟩ (c_L_nine l dC dI cI cC cT cL h0 h1 n0 n1 H.size p5_a p6_a p1 p2 p3 q5 hq5) (va_cwS 5 hts gL_byteOf_L_nine rfl rfl rfl hp_L_nine ⟨Nat.le_of_ble_eq_true rfl, Nat.le_of_ble_eq_true rfl⟩) ⟨preB_fb, fun U hU hW => preB_mk hU hW hPc hK hDc hN⟩ rfl rfl hl.1 rfl (lv_room (Nat.le_of_ble_eq_true rfl)) dL_byteOf_71 ⟨Nat.zero_le _, Nat.zero_le _⟩) hS (fun q _ h => hFc q h) hFc (fun r_ u_ t H locs ht hvm hw hB hz1 hk1 hS => ?_)
        have hw : r_ = q5 := hw
        have hw := hw.symm
        subst hw
        obtain ⟨hP, hD⟩ := x_join (ws' := [(h0, .inl (cI, n0, .inl p5_a)), (h1, .inl (cL, n1, .inr (.inl p6_a)))]) hP hD [0, 1] [] rfl rfl (by decide) (by decide) hk1 hFc ht hB [0, 1] (by decide) rfl
        clear hPc hDc hFc hk1 hB ht hz1 hvm
        refine lv_istore (lv' := [(7, .int q5), (0, .int p1), (1, .int p2), (2, .int p3), (3, .int p4), (4, .ref h0), (5, .ref h1), (6, .int x3)]) hx hb dL_byteOf_74 hl (by decide) rfl (fun ls hl => ?_)
        refine lv_iload hx hb dL_byteOf_76 (lv_at hl 0 rfl) ?_
        obtain ⟨q6, hq6, hd⟩ := bnd_some hd
        have hPc : va_P (dC, dI) vwCl [] _ := hP.sub [] rfl
        have hDc := hD.sub (ws' := []) [] (by decide) rfl
        have hFc := va_free (wc := []) hD hS hA [] rfl
        refine va_calli (va_runS (As := [.int q5]) (rest := []) ⟨hx, hb, hml, hown, hts⟩ (c_L_odd l dC dI cI cC cT cL H.size q5 q6 hq6) (va_cwS 1 hts gL_byteOf_L_odd rfl rfl rfl hp_L_odd ⟨Nat.le_of_ble_eq_true rfl, Nat.le_of_ble_eq_true rfl⟩) ⟨preB_fb, fun U hU hW => preB_mk hU hW hPc hK hDc hN⟩ rfl rfl hl.1 rfl (lv_room (Nat.le_of_ble_eq_true rfl)) dL_byteOf_78 ⟨Nat.zero_le _, Nat.zero_le _⟩) hS (fun q _ h => hFc q h) hFc (fun r_ u_ t H locs ht hvm hw hB hz1 hk1 hS => ?_)
        have hw : r_ = q6 := hw
        have hw := hw.symm
        subst hw
        obtain ⟨hP, hD⟩ := x_join (ws' := [(h0, .inl (cI, n0, .inl p5_a)), (h1, .inl (cL, n1, .inr (.inl p6_a)))]) hP hD [] [0, 1] rfl rfl (by decide) (by decide) hk1 hFc ht hB [0, 1] (by decide) rfl
        clear hPc hDc hFc hk1 hB ht hz1 hvm
        refine lv_if_ne (tgt := 93) hx hb dL_byteOf_81 (by decide) (fun c7 => ?_) (fun c7 => ?_)
        · replace hd := ite_f c7 hd
          refine lv_bipush (v := -6) hx hb dL_byteOf_93 (by decide) ?_
          cases hd
          exact hend (by rfl) hP hD hS dL_byteOf_95
        · replace hd := ite_t c7 hd
          refine lv_iload hx hb dL_byteOf_84 (lv_at hl 0 rfl) ?_
          refine lv_sipush (v := 255) hx hb dL_byteOf_86 (by decide) ?_
          refine lv_iand hx hb dL_byteOf_89 ?_
          refine lv_goto (tgt := 95) hx hb dL_byteOf_90 (by decide) ?_
          cases hd
          exact hend (by rfl) hP hD hS dL_byteOf_95
      · replace hd := ite_f c4 hd
        refine lv_iload hx hb dL_byteOf_37 (lv_at hl 6 rfl) ?_
        refine lv_iload hx hb dL_byteOf_39 (lv_at hl 7 rfl) ?_
        refine lv_iadd hx hb dL_byteOf_41 ?_
        refine lv_aload hx hb dL_byteOf_42 (lv_at hl 5 rfl) ?_
        obtain ⟨q8, hq8, hd⟩ := bnd_some hd
        have hPc : va_P (dC, dI) vwCl [(h1, .inl (cL, n1, .inr (.inl p6_a)))] _ := hP.sub [1] rfl
        have hDc := hD.sub (ws' := [(h1, .inl (cL, n1, .inr (.inl p6_a)))]) [1] (by decide) rfl
        have hFc := va_free (wc := [(h1, .inl (cL, n1, .inr (.inl p6_a)))]) hD hS hA [1] rfl
        refine va_calli (va_runS (As := [.int (x3 + y7_30), .ref h1]) (rest := []) ⟨hx, hb, hml, hown, hts⟩ (c_L_mem l dC dI cI cC cT cL h1 n1 H.size p6_a (x3 + y7_30) q8 hq8) (va_cwS 2 hts gL_byteOf_L_mem rfl rfl rfl hp_L_mem ⟨Nat.le_of_ble_eq_true rfl, Nat.le_of_ble_eq_true rfl⟩) ⟨preB_fb, fun U hU hW => preB_mk hU hW hPc hK hDc hN⟩ rfl rfl hl.1 rfl (lv_room (Nat.le_of_ble_eq_true rfl)) dL_byteOf_44 ⟨Nat.zero_le _, Nat.zero_le _⟩) hS (fun q _ h => hFc q h) hFc (fun r_ u_ t H locs ht hvm hw hB hz1 hk1 hS => ?_)
        have hw : r_ = q8 := hw
        have hw := hw.symm
        subst hw
        obtain ⟨hP, hD⟩ := x_join (ws' := [(h0, .inl (cI, n0, .inl p5_a)), (h1, .inl (cL, n1, .inr (.inl p6_a)))]) hP hD [1] [0] rfl rfl (by decide) (by decide) hk1 hFc ht hB [0, 1] (by decide) rfl
        clear hPc hDc hFc hk1 hB ht hz1 hvm
        refine lv_sipush (v := 128) hx hb dL_byteOf_47 (by decide) ?_
        refine lv_irem hx hb dL_byteOf_50 (by decide) ?_
        refine lv_iload_n hx hb dL_byteOf_51 rfl (lv_at hl 3 rfl) ?_
        refine lv_icmp_ge (tgt := 58) hx hb dL_byteOf_52 (by decide) (fun c9 => ?_) (fun c9 => ?_)
        · replace hd := ite_t c9 hd
          refine lv_iinc (v := (y7_30 + (1 : Int32))) (lv' := [(7, .int (y7_30 + (1 : Int32))), (0, .int p1), (1, .int p2), (2, .int p3), (3, .int p4), (4, .ref h0), (5, .ref h1), (6, .int x3)]) hx hb dL_byteOf_58 hl (k := 7) rfl (by first | rfl | decide) (by decide) rfl (fun ls hl => ?_)
          refine lv_goto (tgt := 30) hx hb dL_byteOf_61 (by decide) ?_
          exact ih (y7_30 + (1 : Int32)) hd _ _ _ hP hD hS (lv_sub hl [1, 2, 3, 4, 5, 6, 7, 0] rfl)
        · replace hd := ite_f c9 hd
          refine lv_bipush (v := -6) hx hb dL_byteOf_55 (by decide) ?_
          cases hd
          exact hend (by rfl) hP hD hS dL_byteOf_57
  exact KL10 FU (0 : Int32) hd _ _ _ hP hD hS (lv_sub hl [2, 3, 4, 5, 6, 7, 1, 0] rfl)
def rmL_lost : Room := { frames := 1, cells := 0, slots := 0, locals := 21 }
theorem hp_L_lost : yL_lost.cls ≠ "java/lang/invoke/MethodHandle" ∧ yL_lost.cls ≠ "java/lang/invoke/VarHandle" ∧ (parseMethodDescriptor yL_lost.desc).map (fun d => d.parameters.length) = some 5 := by decide +kernel
set_option maxHeartbeats 4000000 in
set_option maxRecDepth 100000 in
theorem c_L_lost (l : Launch) (dC : Nat → ClassId) (dI : Nat → Nat → Nat) (cI cC cT cL : ClassId) (h0 h1 : Nat) (n0 n1 : Nat) (sz : Nat) (p4_a : (Nat → Int32)) (p5_a : (Nat → Int64)) (p1 : Int32) (p2 : Int32) (p3 : Int32) (r : Int32) (hd : den_L_lost n0 n1 p4_a p5_a p1 p2 p3 = some r) : Met l yL_lost wsL_lost rmL_lost (va_Pc [.int p1, .int p2, .int p3, .ref h0, .ref h1] (preB sz (dC, dI) [(h0, .inl (cI, n0, .inl p4_a)), (h1, .inl (cL, n1, .inr (.inl p5_a)))] [(cI, .int), (cC, .char), (cT, .object "CassetteTones$Tape"), (cL, .long)])) (va_Qi (S := Unit) (fun v _ => v = r) (fun _ t => posB (dC, dI) [(h0, .inl (cI, n0, .inl p4_a)), (h1, .inl (cL, n1, .inr (.inl p5_a)))] [(cI, .int), (cC, .char), (cT, .object "CassetteTones$Tape"), (cL, .long)] (va_A [(h0, .inl (cI, n0, .inl p4_a)), (h1, .inl (cL, n1, .inr (.inl p5_a)))] sz) t) (va_A [(h0, .inl (cI, n0, .inl p4_a)), (h1, .inl (cL, n1, .inr (.inl p5_a)))] sz)) 0 0 (va_A [(h0, .inl (cI, n0, .inl p4_a)), (h1, .inl (cL, n1, .inr (.inl p5_a)))] sz) := by
  refine x_met_z (by decide) rfl (Nat.le_of_ble_eq_true rfl) ?_
  intro p e s m args below meth c A Q H locs ls hx hb hml hown hts hK hN hA hP hD hS hl hend
  have hown : s.vm.findClass RL = some m.cls := hown
  have hl : lv_has ls 7 [(0, .int p1), (1, .int p2), (2, .int p3), (3, .ref h0), (4, .ref h1)] := hl
  unfold den_L_lost at hd
  refine lv_iconst (v := 0) hx hb dL_lost_0 (by decide) ?_
  refine lv_istore (lv' := [(5, .int (0 : Int32)), (0, .int p1), (1, .int p2), (2, .int p3), (3, .ref h0), (4, .ref h1)]) hx hb dL_lost_1 hl (by decide) rfl (fun ls hl => ?_)
  refine lv_iconst (v := 0) hx hb dL_lost_3 (by decide) ?_
  refine lv_istore (lv' := [(6, .int (0 : Int32)), (5, .int (0 : Int32)), (0, .int p1), (1, .int p2), (2, .int p3), (3, .ref h0), (4, .ref h1)]) hx hb dL_lost_4 hl (by decide) rfl (fun ls hl => ?_)
  obtain ⟨q1, hq1, hd⟩ := bnd_some hd
  have Kq1 : ∀ (H : Heap) (locs : List Loc) (ls : Array Slot), va_P (dC, dI) vwCl [(h0, .inl (cI, n0, .inl p4_a)), (h1, .inl (cL, n1, .inr (.inl p5_a)))] H → va_D A [(h0, .inl (cI, n0, .inl p4_a)), (h1, .inl (cL, n1, .inr (.inl p5_a)))] → va_S A s.heap H locs → lv_has ls 7 [(5, .int q1)] → W p l e rmL_lost s m args below meth c H locs 0 0 Q (F0 m 60 ls []) := by
    intro H locs ls hP hD hS hl
    refine lv_iload hx hb dL_lost_60 (lv_at hl 0 rfl) ?_
    refine lv_iconst (v := 2) hx hb dL_lost_62 (by decide) ?_
    refine lv_icmp_ge (tgt := 70) hx hb dL_lost_63 (by decide) (fun c2 => ?_) (fun c2 => ?_)
    · replace hd := ite_t c2 hd
      refine lv_iconst (v := 0) hx hb dL_lost_70 (by decide) ?_
      cases hd
      exact hend (by rfl) (by rfl) hP hD hS dL_lost_71
    · replace hd := ite_f c2 hd
      refine lv_iconst (v := 1) hx hb dL_lost_66 (by decide) ?_
      refine lv_goto (tgt := 71) hx hb dL_lost_67 (by decide) ?_
      cases hd
      exact hend (by rfl) (by rfl) hP hD hS dL_lost_71
  clear hd
  have KL9 : ∀ (fu : Nat) (y5_6 : Int32) (y6_6 : Int32) (hd : den_L_lost_L6 p1 p2 p3 n0 n1 p4_a p5_a fu y5_6 y6_6 = some q1) (H : Heap) (locs : List Loc) (ls : Array Slot), va_P (dC, dI) vwCl [(h0, .inl (cI, n0, .inl p4_a)), (h1, .inl (cL, n1, .inr (.inl p5_a)))] H → va_D A [(h0, .inl (cI, n0, .inl p4_a)), (h1, .inl (cL, n1, .inr (.inl p5_a)))] → va_S A s.heap H locs → lv_has ls 7 [(0, .int p1), (1, .int p2), (2, .int p3), (3, .ref h0), (4, .ref h1), (5, .int y5_6), (6, .int y6_6)] → W p l e rmL_lost s m args below meth c H locs 0 0 Q (F0 m 6 ls []) := by
    intro fu
    induction fu with
    | zero => intro y5_6 y6_6 hd; exact no_some hd
    | succ fu ih =>
      intro y5_6 y6_6 hd H locs ls hP hD hS hl
      rw [den_L_lost_L6] at hd
      refine lv_iload hx hb dL_lost_6 (lv_at hl 6 rfl) ?_
      refine lv_iconst (v := 4) hx hb dL_lost_8 (by decide) ?_
      refine lv_icmp_ge (tgt := 60) hx hb dL_lost_9 (by decide) (fun c3 => ?_) (fun c3 => ?_)
      · replace hd := ite_t c3 hd
        cases hd
        exact Kq1 _ _ _ hP hD hS (lv_sub hl [5] rfl)
      · replace hd := ite_f c3 hd
        refine lv_iload hx hb dL_lost_12 (lv_at hl 5 rfl) ?_
        refine lv_aload_n hx hb dL_lost_14 rfl (lv_at hl 3 rfl) ?_
        refine lv_bipush (v := 8) hx hb dL_lost_15 (by decide) ?_
        refine lv_iload_n hx hb dL_lost_17 rfl (lv_at hl 0 rfl) ?_
        refine lv_imul hx hb dL_lost_18 ?_
        refine lv_iconst (v := 3) hx hb dL_lost_19 (by decide) ?_
        refine lv_iadd hx hb dL_lost_20 ?_
        obtain ⟨g4, hd⟩ := gd_some hd
        refine x_iald (k := (((8 : Int32) * p1) + (3 : Int32)).toNatClampNeg) hx hb hK hP 0 0 rfl rfl (inb_in g4) rfl dL_lost_21 ?_
        refine lv_iload_n hx hb dL_lost_22 rfl (lv_at hl 1 rfl) ?_
        refine lv_iload_n hx hb dL_lost_23 rfl (lv_at hl 0 rfl) ?_
        refine lv_aload_n hx hb dL_lost_24 rfl (lv_at hl 3 rfl) ?_
        obtain ⟨q5, hq5, hd⟩ := bnd_some hd
        have hPc : va_P (dC, dI) vwCl [(h0, .inl (cI, n0, .inl p4_a))] _ := hP.sub [0] rfl
        have hDc := hD.sub (ws' := [(h0, .inl (cI, n0, .inl p4_a))]) [0] (by decide) rfl
        have hFc := va_free (wc := [(h0, .inl (cI, n0, .inl p4_a))]) hD hS hA [0] rfl
        refine va_calli (va_runS (As := [.int p1, .ref h0]) (rest := [.int p2, .int (p4_a (((8 : Int32) * p1) + (3 : Int32)).toNatClampNeg), .int y5_6]) ⟨hx, hb, hml, hown, hts⟩ (c_L_size l dC dI cI cC cT cL h0 n0 H.size p4_a p1 q5 hq5) (va_cwS 2 hts gL_lost_L_size rfl rfl rfl hp_L_size ⟨Nat.le_of_ble_eq_true rfl, Nat.le_of_ble_eq_true rfl⟩) ⟨preB_fb, fun U hU hW => preB_mk hU hW hPc hK hDc hN⟩ rfl rfl hl.1 rfl (lv_room (Nat.le_of_ble_eq_true rfl)) dL_lost_25 ⟨Nat.zero_le _, Nat.zero_le _⟩) hS (fun q _ h => hFc q h) hFc (fun r_ u_ t H locs ht hvm hw hB hz1 hk1 hS => ?_)
        have hw : r_ = q5 := hw
        have hw := hw.symm
        subst hw
        obtain ⟨hP, hD⟩ := x_join (ws' := [(h0, .inl (cI, n0, .inl p4_a)), (h1, .inl (cL, n1, .inr (.inl p5_a)))]) hP hD [0] [1] rfl rfl (by decide) (by decide) hk1 hFc ht hB [1, 0] (by decide) rfl
        clear hPc hDc hFc hk1 hB ht hz1 hvm
        refine lv_imul hx hb dL_lost_28 ?_
        refine lv_iadd hx hb dL_lost_29 ?_
        refine lv_iload hx hb dL_lost_30 (lv_at hl 6 rfl) ?_
        refine lv_iadd hx hb dL_lost_32 ?_
        refine lv_aload hx hb dL_lost_33 (lv_at hl 4 rfl) ?_
        obtain ⟨q6, hq6, hd⟩ := bnd_some hd
        have hPc : va_P (dC, dI) vwCl [(h1, .inl (cL, n1, .inr (.inl p5_a)))] _ := hP.sub [1] rfl
        have hDc := hD.sub (ws' := [(h1, .inl (cL, n1, .inr (.inl p5_a)))]) [1] (by decide) rfl
        have hFc := va_free (wc := [(h1, .inl (cL, n1, .inr (.inl p5_a)))]) hD hS hA [1] rfl
        refine va_calli (va_runS (As := [.int (((p4_a (((8 : Int32) * p1) + (3 : Int32)).toNatClampNeg) + (p2 * q5)) + y6_6), .ref h1]) (rest := [.int y5_6]) ⟨hx, hb, hml, hown, hts⟩ (c_L_mem l dC dI cI cC cT cL h1 n1 H.size p5_a (((p4_a (((8 : Int32) * p1) + (3 : Int32)).toNatClampNeg) + (p2 * q5)) + y6_6) q6 hq6) (va_cwS 2 hts gL_lost_L_mem rfl rfl rfl hp_L_mem ⟨Nat.le_of_ble_eq_true rfl, Nat.le_of_ble_eq_true rfl⟩) ⟨preB_fb, fun U hU hW => preB_mk hU hW hPc hK hDc hN⟩ rfl rfl hl.1 rfl (lv_room (Nat.le_of_ble_eq_true rfl)) dL_lost_35 ⟨Nat.zero_le _, Nat.zero_le _⟩) hS (fun q _ h => hFc q h) hFc (fun r_ u_ t H locs ht hvm hw hB hz1 hk1 hS => ?_)
        have hw : r_ = q6 := hw
        have hw := hw.symm
        subst hw
        obtain ⟨hP, hD⟩ := x_join (ws' := [(h0, .inl (cI, n0, .inl p4_a)), (h1, .inl (cL, n1, .inr (.inl p5_a)))]) hP hD [1] [0] rfl rfl (by decide) (by decide) hk1 hFc ht hB [0, 1] (by decide) rfl
        clear hPc hDc hFc hk1 hB ht hz1 hvm
        refine lv_sipush (v := 128) hx hb dL_lost_38 (by decide) ?_
        refine lv_irem hx hb dL_lost_41 (by decide) ?_
        refine lv_iload_n hx hb dL_lost_42 rfl (lv_at hl 2 rfl) ?_
        obtain ⟨q7, hq7, hd⟩ := bnd_some hd
        have Kq7 : ∀ (H : Heap) (locs : List Loc) (ls : Array Slot), va_P (dC, dI) vwCl [(h0, .inl (cI, n0, .inl p4_a)), (h1, .inl (cL, n1, .inr (.inl p5_a)))] H → va_D A [(h0, .inl (cI, n0, .inl p4_a)), (h1, .inl (cL, n1, .inr (.inl p5_a)))] → va_S A s.heap H locs → lv_has ls 7 [(0, .int p1), (1, .int p2), (2, .int p3), (3, .ref h0), (4, .ref h1), (6, .int y6_6)] → W p l e rmL_lost s m args below meth c H locs 0 0 Q (F0 m 51 ls [.int q7, .int y5_6]) := by
          intro H locs ls hP hD hS hl
          refine lv_iadd hx hb dL_lost_51 ?_
          refine lv_istore (lv' := [(5, .int (y5_6 + q7)), (0, .int p1), (1, .int p2), (2, .int p3), (3, .ref h0), (4, .ref h1), (6, .int y6_6)]) hx hb dL_lost_52 hl (by decide) rfl (fun ls hl => ?_)
          refine lv_iinc (v := (y6_6 + (1 : Int32))) (lv' := [(6, .int (y6_6 + (1 : Int32))), (5, .int (y5_6 + q7)), (0, .int p1), (1, .int p2), (2, .int p3), (3, .ref h0), (4, .ref h1)]) hx hb dL_lost_54 hl (k := 6) rfl (by first | rfl | decide) (by decide) rfl (fun ls hl => ?_)
          refine lv_goto (tgt := 6) hx hb dL_lost_57 (by decide) ?_
          exact ih (y5_6 + q7) (y6_6 + (1 : Int32)) hd _ _ _ hP hD hS (lv_sub hl [2, 3, 4, 5, 6, 1, 0] rfl)
        replace hd := hq7
        clear hq7
        refine lv_icmp_lt (tgt := 50) hx hb dL_lost_43 (by decide) (fun c8 => ?_) (fun c8 => ?_)
        · replace hd := ite_t c8 hd
          refine lv_iconst (v := 0) hx hb dL_lost_50 (by decide) ?_
          cases hd
          exact Kq7 _ _ _ hP hD hS (lv_sub hl [0, 1, 2, 3, 4, 6] rfl)
        · replace hd := ite_f c8 hd
          refine lv_iconst (v := 1) hx hb dL_lost_46 (by decide) ?_
          refine lv_goto (tgt := 51) hx hb dL_lost_47 (by decide) ?_
          cases hd
          exact Kq7 _ _ _ hP hD hS (lv_sub hl [0, 1, 2, 3, 4, 6] rfl)
  exact KL9 FU (0 : Int32) (0 : Int32) hq1 _ _ _ hP hD hS (lv_sub hl [2, 3, 4, 5, 6, 1, 0] rfl)
def rmL_how : Room := { frames := 3, cells := 0, slots := 0, locals := 77 }
theorem hp_L_how : yL_how.cls ≠ "java/lang/invoke/MethodHandle" ∧ yL_how.cls ≠ "java/lang/invoke/VarHandle" ∧ (parseMethodDescriptor yL_how.desc).map (fun d => d.parameters.length) = some 5 := by decide +kernel
set_option maxHeartbeats 4000000 in
set_option maxRecDepth 100000 in
theorem c_L_how (l : Launch) (dC : Nat → ClassId) (dI : Nat → Nat → Nat) (cI cC cT cL : ClassId) (h0 h1 : Nat) (n0 n1 : Nat) (sz : Nat) (p4_a : (Nat → Int32)) (p5_a : (Nat → Int64)) (p1 : Int32) (p2 : Int32) (p3 : Int32) (r : Int32) (hd : den_L_how n0 n1 p4_a p5_a p1 p2 p3 = some r) : Met l yL_how wsL_how rmL_how (va_Pc [.int p1, .int p2, .int p3, .ref h0, .ref h1] (preB sz (dC, dI) [(h0, .inl (cI, n0, .inl p4_a)), (h1, .inl (cL, n1, .inr (.inl p5_a)))] [(cI, .int), (cC, .char), (cT, .object "CassetteTones$Tape"), (cL, .long)])) (va_Qi (S := Unit) (fun v _ => v = r) (fun _ t => posB (dC, dI) [(h0, .inl (cI, n0, .inl p4_a)), (h1, .inl (cL, n1, .inr (.inl p5_a)))] [(cI, .int), (cC, .char), (cT, .object "CassetteTones$Tape"), (cL, .long)] (va_A [(h0, .inl (cI, n0, .inl p4_a)), (h1, .inl (cL, n1, .inr (.inl p5_a)))] sz) t) (va_A [(h0, .inl (cI, n0, .inl p4_a)), (h1, .inl (cL, n1, .inr (.inl p5_a)))] sz)) 0 0 (va_A [(h0, .inl (cI, n0, .inl p4_a)), (h1, .inl (cL, n1, .inr (.inl p5_a)))] sz) := by
  refine x_met_i (by decide) rfl (Nat.le_of_ble_eq_true rfl) ?_
  intro p e s m args below meth c A Q H locs ls hx hb hml hown hts hK hN hA hP hD hS hl hend
  have hown : s.vm.findClass RL = some m.cls := hown
  have hl : lv_has ls 8 [(0, .int p1), (1, .int p2), (2, .int p3), (3, .ref h0), (4, .ref h1)] := hl
  unfold den_L_how at hd
  refine lv_iload_n hx hb dL_how_0 rfl (lv_at hl 0 rfl) ?_
  refine lv_iload_n hx hb dL_how_1 rfl (lv_at hl 1 rfl) ?_
  refine lv_iload_n hx hb dL_how_2 rfl (lv_at hl 2 rfl) ?_
  refine lv_aload_n hx hb dL_how_3 rfl (lv_at hl 3 rfl) ?_
  refine lv_aload hx hb dL_how_4 (lv_at hl 4 rfl) ?_
  obtain ⟨q1, hq1, hd⟩ := bnd_some hd
  have hPc : va_P (dC, dI) vwCl [(h0, .inl (cI, n0, .inl p4_a)), (h1, .inl (cL, n1, .inr (.inl p5_a)))] _ := hP.sub [0, 1] rfl
  have hDc := hD.sub (ws' := [(h0, .inl (cI, n0, .inl p4_a)), (h1, .inl (cL, n1, .inr (.inl p5_a)))]) [0, 1] (by decide) rfl
  have hFc := va_free (wc := [(h0, .inl (cI, n0, .inl p4_a)), (h1, .inl (cL, n1, .inr (.inl p5_a)))]) hD hS hA [0, 1] rfl
  refine va_calli (va_runS (As := [.int p1, .int p2, .int p3, .ref h0, .ref h1]) (rest := []) ⟨hx, hb, hml, hown, hts⟩ (c_L_lost l dC dI cI cC cT cL h0 h1 n0 n1 H.size p4_a p5_a p1 p2 p3 q1 hq1) (va_cwS 5 hts gL_how_L_lost rfl rfl rfl hp_L_lost ⟨Nat.le_of_ble_eq_true rfl, Nat.le_of_ble_eq_true rfl⟩) ⟨preB_fb, fun U hU hW => preB_mk hU hW hPc hK hDc hN⟩ rfl rfl hl.1 rfl (lv_room (Nat.le_of_ble_eq_true rfl)) dL_how_6 ⟨Nat.zero_le _, Nat.zero_le _⟩) hS (fun q _ h => hFc q h) hFc (fun r_ u_ t H locs ht hvm hw hB hz1 hk1 hS => ?_)
  have hw : r_ = q1 := hw
  have hw := hw.symm
  subst hw
  obtain ⟨hP, hD⟩ := x_join (ws' := [(h0, .inl (cI, n0, .inl p4_a)), (h1, .inl (cL, n1, .inr (.inl p5_a)))]) hP hD [0, 1] [] rfl rfl (by decide) (by decide) hk1 hFc ht hB [0, 1] (by decide) rfl
  clear hPc hDc hFc hk1 hB ht hz1 hvm
  refine lv_if_eq (tgt := 14) hx hb dL_how_9 (by decide) (fun c2 => ?_) (fun c2 => ?_)
  · replace hd := ite_t c2 hd
    refine lv_iconst (v := 0) hx hb dL_how_14 (by decide) ?_
    refine lv_istore (lv' := [(5, .int (0 : Int32)), (0, .int p1), (1, .int p2), (2, .int p3), (3, .ref h0), (4, .ref h1)]) hx hb dL_how_15 hl (by decide) rfl (fun ls hl => ?_)
    refine lv_iconst (v := 0) hx hb dL_how_17 (by decide) ?_
    refine lv_istore (lv' := [(6, .int (0 : Int32)), (5, .int (0 : Int32)), (0, .int p1), (1, .int p2), (2, .int p3), (3, .ref h0), (4, .ref h1)]) hx hb dL_how_18 hl (by decide) rfl (fun ls hl => ?_)
    have KL10 : ∀ (fu : Nat) (y5_20 : Int32) (y6_20 : Int32) (hd : den_L_how_L20 p1 p2 p3 n0 n1 p4_a p5_a fu y5_20 y6_20 = some r) (H : Heap) (locs : List Loc) (ls : Array Slot), va_P (dC, dI) vwCl [(h0, .inl (cI, n0, .inl p4_a)), (h1, .inl (cL, n1, .inr (.inl p5_a)))] H → va_D A [(h0, .inl (cI, n0, .inl p4_a)), (h1, .inl (cL, n1, .inr (.inl p5_a)))] → va_S A s.heap H locs → lv_has ls 8 [(0, .int p1), (1, .int p2), (2, .int p3), (3, .ref h0), (4, .ref h1), (5, .int y5_20), (6, .int y6_20)] → W p l e rmL_how s m args below meth c H locs 0 0 Q (F0 m 20 ls []) := by
      intro fu
      induction fu with
      | zero => intro y5_20 y6_20 hd; exact no_some hd
      | succ fu ih =>
        intro y5_20 y6_20 hd H locs ls hP hD hS hl
        rw [den_L_how_L20] at hd
        refine lv_iload hx hb dL_how_20 (lv_at hl 6 rfl) ?_
        refine lv_aload_n hx hb dL_how_22 rfl (lv_at hl 3 rfl) ?_
        refine lv_bipush (v := 8) hx hb dL_how_23 (by decide) ?_
        refine lv_iload_n hx hb dL_how_25 rfl (lv_at hl 0 rfl) ?_
        refine lv_imul hx hb dL_how_26 ?_
        refine lv_iconst (v := 2) hx hb dL_how_27 (by decide) ?_
        refine lv_iadd hx hb dL_how_28 ?_
        obtain ⟨g3, hd⟩ := gd_some hd
        refine x_iald (k := (((8 : Int32) * p1) + (2 : Int32)).toNatClampNeg) hx hb hK hP 0 0 rfl rfl (inb_in g3) rfl dL_how_29 ?_
        refine lv_icmp_ge (tgt := 66) hx hb dL_how_30 (by decide) (fun c4 => ?_) (fun c4 => ?_)
        · replace hd := ite_t c4 hd
          refine lv_iload_n hx hb dL_how_66 rfl (lv_at hl 0 rfl) ?_
          refine lv_iload_n hx hb dL_how_67 rfl (lv_at hl 1 rfl) ?_
          refine lv_aload_n hx hb dL_how_68 rfl (lv_at hl 3 rfl) ?_
          refine lv_bipush (v := 8) hx hb dL_how_69 (by decide) ?_
          refine lv_iload_n hx hb dL_how_71 rfl (lv_at hl 0 rfl) ?_
          refine lv_imul hx hb dL_how_72 ?_
          refine lv_iconst (v := 2) hx hb dL_how_73 (by decide) ?_
          refine lv_iadd hx hb dL_how_74 ?_
          obtain ⟨g5, hd⟩ := gd_some hd
          refine x_iald (k := (((8 : Int32) * p1) + (2 : Int32)).toNatClampNeg) hx hb hK hP 0 0 rfl rfl (inb_in g5) rfl dL_how_75 ?_
          refine lv_iload_n hx hb dL_how_76 rfl (lv_at hl 2 rfl) ?_
          refine lv_aload_n hx hb dL_how_77 rfl (lv_at hl 3 rfl) ?_
          refine lv_aload hx hb dL_how_78 (lv_at hl 4 rfl) ?_
          obtain ⟨q6, hq6, hd⟩ := bnd_some hd
          have hPc : va_P (dC, dI) vwCl [(h0, .inl (cI, n0, .inl p4_a)), (h1, .inl (cL, n1, .inr (.inl p5_a)))] _ := hP.sub [0, 1] rfl
          have hDc := hD.sub (ws' := [(h0, .inl (cI, n0, .inl p4_a)), (h1, .inl (cL, n1, .inr (.inl p5_a)))]) [0, 1] (by decide) rfl
          have hFc := va_free (wc := [(h0, .inl (cI, n0, .inl p4_a)), (h1, .inl (cL, n1, .inr (.inl p5_a)))]) hD hS hA [0, 1] rfl
          refine va_calli (va_runS (As := [.int p1, .int p2, .int (p4_a (((8 : Int32) * p1) + (2 : Int32)).toNatClampNeg), .int p3, .ref h0, .ref h1]) (rest := []) ⟨hx, hb, hml, hown, hts⟩ (c_L_byteOf l dC dI cI cC cT cL h0 h1 n0 n1 H.size p4_a p5_a p1 p2 (p4_a (((8 : Int32) * p1) + (2 : Int32)).toNatClampNeg) p3 q6 hq6) (va_cwS 6 hts gL_how_L_byteOf rfl rfl rfl hp_L_byteOf ⟨Nat.le_of_ble_eq_true rfl, Nat.le_of_ble_eq_true rfl⟩) ⟨preB_fb, fun U hU hW => preB_mk hU hW hPc hK hDc hN⟩ rfl rfl hl.1 rfl (lv_room (Nat.le_of_ble_eq_true rfl)) dL_how_80 ⟨Nat.zero_le _, Nat.zero_le _⟩) hS (fun q _ h => hFc q h) hFc (fun r_ u_ t H locs ht hvm hw hB hz1 hk1 hS => ?_)
          have hw : r_ = q6 := hw
          have hw := hw.symm
          subst hw
          obtain ⟨hP, hD⟩ := x_join (ws' := [(h0, .inl (cI, n0, .inl p4_a)), (h1, .inl (cL, n1, .inr (.inl p5_a)))]) hP hD [0, 1] [] rfl rfl (by decide) (by decide) hk1 hFc ht hB [0, 1] (by decide) rfl
          clear hPc hDc hFc hk1 hB ht hz1 hvm
          refine lv_iload hx hb dL_how_83 (lv_at hl 5 rfl) ?_
          refine lv_sipush (v := 255) hx hb dL_how_85 (by decide) ?_
          refine lv_iand hx hb dL_how_88 ?_
          refine lv_icmp_ne (tgt := 96) hx hb dL_how_89 (by decide) (fun c7 => ?_) (fun c7 => ?_)
          · replace hd := ite_f c7 hd
            refine lv_iconst (v := 3) hx hb dL_how_96 (by decide) ?_
            cases hd
            exact hend (by rfl) hP hD hS dL_how_97
          · replace hd := ite_t c7 hd
            refine lv_iconst (v := 0) hx hb dL_how_92 (by decide) ?_
            refine lv_goto (tgt := 97) hx hb dL_how_93 (by decide) ?_
            cases hd
            exact hend (by rfl) hP hD hS dL_how_97
        · replace hd := ite_f c4 hd
          refine lv_iload_n hx hb dL_how_33 rfl (lv_at hl 0 rfl) ?_
          refine lv_iload_n hx hb dL_how_34 rfl (lv_at hl 1 rfl) ?_
          refine lv_iload hx hb dL_how_35 (lv_at hl 6 rfl) ?_
          refine lv_iload_n hx hb dL_how_37 rfl (lv_at hl 2 rfl) ?_
          refine lv_aload_n hx hb dL_how_38 rfl (lv_at hl 3 rfl) ?_
          refine lv_aload hx hb dL_how_39 (lv_at hl 4 rfl) ?_
          obtain ⟨q8, hq8, hd⟩ := bnd_some hd
          have hPc : va_P (dC, dI) vwCl [(h0, .inl (cI, n0, .inl p4_a)), (h1, .inl (cL, n1, .inr (.inl p5_a)))] _ := hP.sub [0, 1] rfl
          have hDc := hD.sub (ws' := [(h0, .inl (cI, n0, .inl p4_a)), (h1, .inl (cL, n1, .inr (.inl p5_a)))]) [0, 1] (by decide) rfl
          have hFc := va_free (wc := [(h0, .inl (cI, n0, .inl p4_a)), (h1, .inl (cL, n1, .inr (.inl p5_a)))]) hD hS hA [0, 1] rfl
          refine va_calli (va_runS (As := [.int p1, .int p2, .int y6_20, .int p3, .ref h0, .ref h1]) (rest := []) ⟨hx, hb, hml, hown, hts⟩ (c_L_byteOf l dC dI cI cC cT cL h0 h1 n0 n1 H.size p4_a p5_a p1 p2 y6_20 p3 q8 hq8) (va_cwS 6 hts gL_how_L_byteOf rfl rfl rfl hp_L_byteOf ⟨Nat.le_of_ble_eq_true rfl, Nat.le_of_ble_eq_true rfl⟩) ⟨preB_fb, fun U hU hW => preB_mk hU hW hPc hK hDc hN⟩ rfl rfl hl.1 rfl (lv_room (Nat.le_of_ble_eq_true rfl)) dL_how_41 ⟨Nat.zero_le _, Nat.zero_le _⟩) hS (fun q _ h => hFc q h) hFc (fun r_ u_ t H locs ht hvm hw hB hz1 hk1 hS => ?_)
          have hw : r_ = q8 := hw
          have hw := hw.symm
          subst hw
          obtain ⟨hP, hD⟩ := x_join (ws' := [(h0, .inl (cI, n0, .inl p4_a)), (h1, .inl (cL, n1, .inr (.inl p5_a)))]) hP hD [0, 1] [] rfl rfl (by decide) (by decide) hk1 hFc ht hB [0, 1] (by decide) rfl
          clear hPc hDc hFc hk1 hB ht hz1 hvm
          refine lv_istore (lv' := [(7, .int q8), (0, .int p1), (1, .int p2), (2, .int p3), (3, .ref h0), (4, .ref h1), (5, .int y5_20), (6, .int y6_20)]) hx hb dL_how_44 hl (by decide) rfl (fun ls hl => ?_)
          refine lv_iload hx hb dL_how_46 (lv_at hl 0 rfl) ?_
          refine lv_if_ge (tgt := 53) hx hb dL_how_48 (by decide) (fun c9 => ?_) (fun c9 => ?_)
          · replace hd := ite_t c9 hd
            refine lv_iload hx hb dL_how_53 (lv_at hl 6 rfl) ?_
            refine lv_iload hx hb dL_how_55 (lv_at hl 0 rfl) ?_
            refine lv_iadd hx hb dL_how_57 ?_
            refine lv_istore (lv' := [(5, .int (y5_20 + q8)), (7, .int q8), (0, .int p1), (1, .int p2), (2, .int p3), (3, .ref h0), (4, .ref h1), (6, .int y6_20)]) hx hb dL_how_58 hl (by decide) rfl (fun ls hl => ?_)
            refine lv_iinc (v := (y6_20 + (1 : Int32))) (lv' := [(6, .int (y6_20 + (1 : Int32))), (5, .int (y5_20 + q8)), (7, .int q8), (0, .int p1), (1, .int p2), (2, .int p3), (3, .ref h0), (4, .ref h1)]) hx hb dL_how_60 hl (k := 7) rfl (by first | rfl | decide) (by decide) rfl (fun ls hl => ?_)
            refine lv_goto (tgt := 20) hx hb dL_how_63 (by decide) ?_
            exact ih (y5_20 + q8) (y6_20 + (1 : Int32)) hd _ _ _ hP hD hS (lv_sub hl [3, 4, 5, 6, 7, 1, 0] rfl)
          · replace hd := ite_f c9 hd
            refine lv_iconst (v := 2) hx hb dL_how_51 (by decide) ?_
            cases hd
            exact hend (by rfl) hP hD hS dL_how_52
    exact KL10 FU (0 : Int32) (0 : Int32) hd _ _ _ hP hD hS (lv_sub hl [2, 3, 4, 5, 6, 1, 0] rfl)
  · replace hd := ite_f c2 hd
    refine lv_iconst (v := 1) hx hb dL_how_12 (by decide) ?_
    cases hd
    exact hend (by rfl) hP hD hS dL_how_13
def rmL_load : Room := { frames := 4, cells := 0, slots := 0, locals := 104 }
theorem kL_load_1 : (Cond.constantLong RL 46 (-6)) ∈ wsL_load := List.mem_of_getElem? (i := 1) (by decide +kernel)
theorem hp_L_load : yL_load.cls ≠ "java/lang/invoke/MethodHandle" ∧ yL_load.cls ≠ "java/lang/invoke/VarHandle" ∧ (parseMethodDescriptor yL_load.desc).map (fun d => d.parameters.length) = some 4 := by decide +kernel
set_option maxHeartbeats 4000000 in
set_option maxRecDepth 100000 in
theorem c_L_load (l : Launch) (dC : Nat → ClassId) (dI : Nat → Nat → Nat) (cI cC cT cL : ClassId) (h0 h1 : Nat) (n0 n1 : Nat) (sz : Nat) (p3_a : (Nat → Int32)) (p4_a : (Nat → Int64)) (p1 : Int32) (p2 : Int32) (r : Int64) (hd : den_L_load n0 n1 p3_a p4_a p1 p2 = some r) : Met l yL_load wsL_load rmL_load (va_Pc [.int p1, .int p2, .ref h0, .ref h1] (preB sz (dC, dI) [(h0, .inl (cI, n0, .inl p3_a)), (h1, .inl (cL, n1, .inr (.inl p4_a)))] [(cI, .int), (cC, .char), (cT, .object "CassetteTones$Tape"), (cL, .long)])) (va_Ql (S := Unit) (fun v _ => v = r) (fun _ t => posB (dC, dI) [(h0, .inl (cI, n0, .inl p3_a)), (h1, .inl (cL, n1, .inr (.inl p4_a)))] [(cI, .int), (cC, .char), (cT, .object "CassetteTones$Tape"), (cL, .long)] (va_A [(h0, .inl (cI, n0, .inl p3_a)), (h1, .inl (cL, n1, .inr (.inl p4_a)))] sz) t) (va_A [(h0, .inl (cI, n0, .inl p3_a)), (h1, .inl (cL, n1, .inr (.inl p4_a)))] sz)) 0 0 (va_A [(h0, .inl (cI, n0, .inl p3_a)), (h1, .inl (cL, n1, .inr (.inl p4_a)))] sz) := by
  refine x_met_l (by decide) rfl (Nat.le_of_ble_eq_true rfl) ?_
  intro p e s m args below meth c A Q H locs ls hx hb hml hown hts hK hN hA hP hD hS hl hend
  have hown : s.vm.findClass RL = some m.cls := hown
  have hl : lv_has ls 11 [(0, .int p1), (1, .int p2), (2, .ref h0), (3, .ref h1)] := hl
  unfold den_L_load at hd
  refine lv_aload_n hx hb dL_load_0 rfl (lv_at hl 2 rfl) ?_
  refine lv_bipush (v := 8) hx hb dL_load_1 (by decide) ?_
  refine lv_iload_n hx hb dL_load_3 rfl (lv_at hl 0 rfl) ?_
  refine lv_imul hx hb dL_load_4 ?_
  refine lv_iconst (v := 2) hx hb dL_load_5 (by decide) ?_
  refine lv_iadd hx hb dL_load_6 ?_
  obtain ⟨g1, hd⟩ := gd_some hd
  refine x_iald (k := (((8 : Int32) * p1) + (2 : Int32)).toNatClampNeg) hx hb hK hP 0 0 rfl rfl (inb_in g1) rfl dL_load_7 ?_
  refine lv_topi (fun x2 ex2 => ?_)
  replace hd := nm_some ex2 hd
  refine lv_istore (lv' := [(4, .int x2), (0, .int p1), (1, .int p2), (2, .ref h0), (3, .ref h1)]) hx hb dL_load_8 hl (by decide) rfl (fun ls hl => ?_)
  refine lv_iload_n hx hb dL_load_10 rfl (lv_at hl 1 rfl) ?_
  refine lv_iconst (v := 0) hx hb dL_load_11 (by decide) ?_
  refine lv_iload_n hx hb dL_load_12 rfl (lv_at hl 2 rfl) ?_
  refine lv_aload_n hx hb dL_load_13 rfl (lv_at hl 3 rfl) ?_
  refine lv_aload_n hx hb dL_load_14 rfl (lv_at hl 4 rfl) ?_
  obtain ⟨q3, hq3, hd⟩ := bnd_some hd
  have hPc : va_P (dC, dI) vwCl [(h0, .inl (cI, n0, .inl p3_a)), (h1, .inl (cL, n1, .inr (.inl p4_a)))] _ := hP.sub [0, 1] rfl
  have hDc := hD.sub (ws' := [(h0, .inl (cI, n0, .inl p3_a)), (h1, .inl (cL, n1, .inr (.inl p4_a)))]) [0, 1] (by decide) rfl
  have hFc := va_free (wc := [(h0, .inl (cI, n0, .inl p3_a)), (h1, .inl (cL, n1, .inr (.inl p4_a)))]) hD hS hA [0, 1] rfl
  refine va_calli (va_runS (As := [.int p1, .int (0 : Int32), .int p2, .ref h0, .ref h1]) (rest := []) ⟨hx, hb, hml, hown, hts⟩ (c_L_how l dC dI cI cC cT cL h0 h1 n0 n1 H.size p3_a p4_a p1 (0 : Int32) p2 q3 hq3) (va_cwS 5 hts gL_load_L_how rfl rfl rfl hp_L_how ⟨Nat.le_of_ble_eq_true rfl, Nat.le_of_ble_eq_true rfl⟩) ⟨preB_fb, fun U hU hW => preB_mk hU hW hPc hK hDc hN⟩ rfl rfl hl.1 rfl (lv_room (Nat.le_of_ble_eq_true rfl)) dL_load_15 ⟨Nat.zero_le _, Nat.zero_le _⟩) hS (fun q _ h => hFc q h) hFc (fun r_ u_ t H locs ht hvm hw hB hz1 hk1 hS => ?_)
  have hw : r_ = q3 := hw
  have hw := hw.symm
  subst hw
  obtain ⟨hP, hD⟩ := x_join (ws' := [(h0, .inl (cI, n0, .inl p3_a)), (h1, .inl (cL, n1, .inr (.inl p4_a)))]) hP hD [0, 1] [] rfl rfl (by decide) (by decide) hk1 hFc ht hB [0, 1] (by decide) rfl
  clear hPc hDc hFc hk1 hB ht hz1 hvm
  obtain ⟨q4, hq4, hd⟩ := bnd_some hd
  have Kq4 : ∀ (H : Heap) (locs : List Loc) (ls : Array Slot), va_P (dC, dI) vwCl [(h0, .inl (cI, n0, .inl p3_a)), (h1, .inl (cL, n1, .inr (.inl p4_a)))] H → va_D A [(h0, .inl (cI, n0, .inl p3_a)), (h1, .inl (cL, n1, .inr (.inl p4_a)))] → va_S A s.heap H locs → lv_has ls 11 [(0, .int p1), (1, .int p2), (2, .ref h0), (3, .ref h1), (4, .int x2)] → W p l e rmL_load s m args below meth c H locs 0 0 Q (F0 m 41 ls [.int q4]) := by
    intro H locs ls hP hD hS hl
    refine lv_istore (lv' := [(5, .int q4), (0, .int p1), (1, .int p2), (2, .ref h0), (3, .ref h1), (4, .int x2)]) hx hb dL_load_41 hl (by decide) rfl (fun ls hl => ?_)
    refine lv_iload hx hb dL_load_43 (lv_at hl 0 rfl) ?_
    refine lv_iconst (v := 2) hx hb dL_load_45 (by decide) ?_
    obtain ⟨J5, eJ5, hd⟩ := nm_ex hd
    have KJ5 : ∀ (u_ : Unit) (hd : J5 u_ = some r) (H : Heap) (locs : List Loc) (ls : Array Slot), va_P (dC, dI) vwCl [(h0, .inl (cI, n0, .inl p3_a)), (h1, .inl (cL, n1, .inr (.inl p4_a)))] H → va_D A [(h0, .inl (cI, n0, .inl p3_a)), (h1, .inl (cL, n1, .inr (.inl p4_a)))] → va_S A s.heap H locs → lv_has ls 11 [(0, .int p1), (1, .int p2), (2, .ref h0), (3, .ref h1), (4, .int x2), (5, .int q4)] → W p l e rmL_load s m args below meth c H locs 0 0 Q (F0 m 75 ls []) := by
      intro u_ hd H locs ls hP hD hS hl
      replace hd := jx1 eJ5 hd
      refine lv_lconst (v := 0) hx hb dL_load_75 (by decide) ?_
      refine lv_lstore (lv' := [(6, .long (0 : Int64)), (0, .int p1), (1, .int p2), (2, .ref h0), (3, .ref h1), (4, .int x2), (5, .int q4)]) hx hb dL_load_76 hl (by decide) rfl (fun ls hl => ?_)
      refine lv_iconst (v := 0) hx hb dL_load_78 (by decide) ?_
      refine lv_istore (lv' := [(8, .int (0 : Int32)), (6, .long (0 : Int64)), (0, .int p1), (1, .int p2), (2, .ref h0), (3, .ref h1), (4, .int x2), (5, .int q4)]) hx hb dL_load_79 hl (by decide) rfl (fun ls hl => ?_)
      refine lv_iload hx hb dL_load_81 (lv_at hl 6 rfl) ?_
      refine lv_iconst (v := 1) hx hb dL_load_83 (by decide) ?_
      refine lv_isub hx hb dL_load_84 ?_
      refine lv_istore (lv' := [(9, .int (x2 - (1 : Int32))), (8, .int (0 : Int32)), (6, .long (0 : Int64)), (0, .int p1), (1, .int p2), (2, .ref h0), (3, .ref h1), (4, .int x2), (5, .int q4)]) hx hb dL_load_85 hl (by decide) rfl (fun ls hl => ?_)
      have KL21 : ∀ (fu : Nat) (y6_87 : Int64) (y8_87 : Int32) (y9_87 : Int32) (hd : den_L_load_L87 p1 p2 n0 n1 p3_a p4_a x2 q4 fu y6_87 y8_87 y9_87 = some r) (H : Heap) (locs : List Loc) (ls : Array Slot), va_P (dC, dI) vwCl [(h0, .inl (cI, n0, .inl p3_a)), (h1, .inl (cL, n1, .inr (.inl p4_a)))] H → va_D A [(h0, .inl (cI, n0, .inl p3_a)), (h1, .inl (cL, n1, .inr (.inl p4_a)))] → va_S A s.heap H locs → lv_has ls 11 [(0, .int p1), (1, .int p2), (2, .ref h0), (3, .ref h1), (4, .int x2), (5, .int q4), (6, .long y6_87), (8, .int y8_87), (9, .int y9_87)] → W p l e rmL_load s m args below meth c H locs 0 0 Q (F0 m 87 ls []) := by
        intro fu
        induction fu with
        | zero => intro y6_87 y8_87 y9_87 hd; exact no_some hd
        | succ fu ih =>
          intro y6_87 y8_87 y9_87 hd H locs ls hP hD hS hl
          rw [den_L_load_L87] at hd
          refine lv_iload hx hb dL_load_87 (lv_at hl 8 rfl) ?_
          refine lv_if_lt (tgt := 169) hx hb dL_load_89 (by decide) (fun c6 => ?_) (fun c6 => ?_)
          · replace hd := ite_t c6 hd
            refine lv_iload hx hb dL_load_169 (lv_at hl 5 rfl) ?_
            refine lv_iconst (v := 2) hx hb dL_load_171 (by decide) ?_
            obtain ⟨J7, eJ7, hd⟩ := nm_ex hd
            have KJ7 : ∀ (u_ : Unit) (hd : J7 u_ = some r) (H : Heap) (locs : List Loc) (ls : Array Slot), va_P (dC, dI) vwCl [(h0, .inl (cI, n0, .inl p3_a)), (h1, .inl (cL, n1, .inr (.inl p4_a)))] H → va_D A [(h0, .inl (cI, n0, .inl p3_a)), (h1, .inl (cL, n1, .inr (.inl p4_a)))] → va_S A s.heap H locs → lv_has ls 11 [(5, .int q4), (6, .long y6_87)] → W p l e rmL_load s m args below meth c H locs 0 0 Q (F0 m 217 ls []) := by
              intro u_ hd H locs ls hP hD hS hl
              replace hd := jx1 eJ7 hd
              refine lv_lload hx hb dL_load_217 (lv_at hl 1 rfl) ?_
              refine lv_iconst (v := 2) hx hb dL_load_219 (by decide) ?_
              refine lv_lshl (v := (y6_87 <<< (((2 : Int32)).toInt64 &&& 63))) hx hb dL_load_220 rfl ?_
              refine lv_iload hx hb dL_load_221 (lv_at hl 0 rfl) ?_
              refine lv_i2l (v := (q4).toInt64) hx hb dL_load_223 rfl ?_
              refine lv_lor hx hb dL_load_224 ?_
              cases hd
              exact hend (by rfl) hP hD hS dL_load_225
            refine lv_icmp_ne (tgt := 217) hx hb dL_load_172 (by decide) (fun c8 => ?_) (fun c8 => ?_)
            · replace hd := ite_f c8 hd
              exact KJ7 () hd _ _ _ hP hD hS (lv_sub hl [5, 6] rfl)
            · replace hd := ite_t c8 hd
              refine lv_iload_n hx hb dL_load_175 rfl (lv_at hl 0 rfl) ?_
              refine lv_iconst (v := 0) hx hb dL_load_176 (by decide) ?_
              refine lv_iload hx hb dL_load_177 (lv_at hl 4 rfl) ?_
              refine lv_iload_n hx hb dL_load_179 rfl (lv_at hl 1 rfl) ?_
              refine lv_aload_n hx hb dL_load_180 rfl (lv_at hl 2 rfl) ?_
              refine lv_aload_n hx hb dL_load_181 rfl (lv_at hl 3 rfl) ?_
              obtain ⟨q9, hq9, hd⟩ := bnd_some hd
              have hPc : va_P (dC, dI) vwCl [(h0, .inl (cI, n0, .inl p3_a)), (h1, .inl (cL, n1, .inr (.inl p4_a)))] _ := hP.sub [0, 1] rfl
              have hDc := hD.sub (ws' := [(h0, .inl (cI, n0, .inl p3_a)), (h1, .inl (cL, n1, .inr (.inl p4_a)))]) [0, 1] (by decide) rfl
              have hFc := va_free (wc := [(h0, .inl (cI, n0, .inl p3_a)), (h1, .inl (cL, n1, .inr (.inl p4_a)))]) hD hS hA [0, 1] rfl
              refine va_calli (va_runS (As := [.int p1, .int (0 : Int32), .int x2, .int p2, .ref h0, .ref h1]) (rest := []) ⟨hx, hb, hml, hown, hts⟩ (c_L_byteOf l dC dI cI cC cT cL h0 h1 n0 n1 H.size p3_a p4_a p1 (0 : Int32) x2 p2 q9 hq9) (va_cwS 6 hts gL_load_L_byteOf rfl rfl rfl hp_L_byteOf ⟨Nat.le_of_ble_eq_true rfl, Nat.le_of_ble_eq_true rfl⟩) ⟨preB_fb, fun U hU hW => preB_mk hU hW hPc hK hDc hN⟩ rfl rfl hl.1 rfl (lv_room (Nat.le_of_ble_eq_true rfl)) dL_load_182 ⟨Nat.zero_le _, Nat.zero_le _⟩) hS (fun q _ h => hFc q h) hFc (fun r_ u_ t H locs ht hvm hw hB hz1 hk1 hS => ?_)
              have hw : r_ = q9 := hw
              have hw := hw.symm
              subst hw
              obtain ⟨hP, hD⟩ := x_join (ws' := [(h0, .inl (cI, n0, .inl p3_a)), (h1, .inl (cL, n1, .inr (.inl p4_a)))]) hP hD [0, 1] [] rfl rfl (by decide) (by decide) hk1 hFc ht hB [0, 1] (by decide) rfl
              clear hPc hDc hFc hk1 hB ht hz1 hvm
              refine lv_iload hx hb dL_load_185 (lv_at hl 7 rfl) ?_
              refine lv_sipush (v := 255) hx hb dL_load_187 (by decide) ?_
              refine lv_iand hx hb dL_load_190 ?_
              refine lv_icmp_eq (tgt := 217) hx hb dL_load_191 (by decide) (fun c10 => ?_) (fun c10 => ?_)
              · replace hd := ite_t c10 hd
                exact KJ7 () hd _ _ _ hP hD hS (lv_sub hl [5, 6] rfl)
              · replace hd := ite_f c10 hd
                refine lv_iload_n hx hb dL_load_194 rfl (lv_at hl 0 rfl) ?_
                refine lv_iconst (v := 1) hx hb dL_load_195 (by decide) ?_
                refine lv_iload hx hb dL_load_196 (lv_at hl 4 rfl) ?_
                refine lv_iload_n hx hb dL_load_198 rfl (lv_at hl 1 rfl) ?_
                refine lv_aload_n hx hb dL_load_199 rfl (lv_at hl 2 rfl) ?_
                refine lv_aload_n hx hb dL_load_200 rfl (lv_at hl 3 rfl) ?_
                obtain ⟨q11, hq11, hd⟩ := bnd_some hd
                have hPc : va_P (dC, dI) vwCl [(h0, .inl (cI, n0, .inl p3_a)), (h1, .inl (cL, n1, .inr (.inl p4_a)))] _ := hP.sub [0, 1] rfl
                have hDc := hD.sub (ws' := [(h0, .inl (cI, n0, .inl p3_a)), (h1, .inl (cL, n1, .inr (.inl p4_a)))]) [0, 1] (by decide) rfl
                have hFc := va_free (wc := [(h0, .inl (cI, n0, .inl p3_a)), (h1, .inl (cL, n1, .inr (.inl p4_a)))]) hD hS hA [0, 1] rfl
                refine va_calli (va_runS (As := [.int p1, .int (1 : Int32), .int x2, .int p2, .ref h0, .ref h1]) (rest := []) ⟨hx, hb, hml, hown, hts⟩ (c_L_byteOf l dC dI cI cC cT cL h0 h1 n0 n1 H.size p3_a p4_a p1 (1 : Int32) x2 p2 q11 hq11) (va_cwS 6 hts gL_load_L_byteOf rfl rfl rfl hp_L_byteOf ⟨Nat.le_of_ble_eq_true rfl, Nat.le_of_ble_eq_true rfl⟩) ⟨preB_fb, fun U hU hW => preB_mk hU hW hPc hK hDc hN⟩ rfl rfl hl.1 rfl (lv_room (Nat.le_of_ble_eq_true rfl)) dL_load_201 ⟨Nat.zero_le _, Nat.zero_le _⟩) hS (fun q _ h => hFc q h) hFc (fun r_ u_ t H locs ht hvm hw hB hz1 hk1 hS => ?_)
                have hw : r_ = q11 := hw
                have hw := hw.symm
                subst hw
                obtain ⟨hP, hD⟩ := x_join (ws' := [(h0, .inl (cI, n0, .inl p3_a)), (h1, .inl (cL, n1, .inr (.inl p4_a)))]) hP hD [0, 1] [] rfl rfl (by decide) (by decide) hk1 hFc ht hB [0, 1] (by decide) rfl
                clear hPc hDc hFc hk1 hB ht hz1 hvm
                refine lv_iload hx hb dL_load_204 (lv_at hl 7 rfl) ?_
                refine lv_sipush (v := 255) hx hb dL_load_206 (by decide) ?_
                refine lv_iand hx hb dL_load_209 ?_
                refine lv_icmp_eq (tgt := 217) hx hb dL_load_210 (by decide) (fun c12 => ?_) (fun c12 => ?_)
                · replace hd := ite_t c12 hd
                  exact KJ7 () hd _ _ _ hP hD hS (lv_sub hl [5, 6] rfl)
                · replace hd := ite_f c12 hd
                  refine lv_ldc2 (v := -6) hx hb hown (hts _ kL_load_1) dL_load_213 ?_
                  cases hd
                  exact hend (by rfl) hP hD hS dL_load_216
          · replace hd := ite_f c6 hd
            refine lv_iload_n hx hb dL_load_92 rfl (lv_at hl 0 rfl) ?_
            refine lv_iload hx hb dL_load_93 (lv_at hl 5 rfl) ?_
            refine lv_iconst (v := 1) hx hb dL_load_95 (by decide) ?_
            obtain ⟨q13, hq13, hd⟩ := bnd_some hd
            have Kq13 : ∀ (H : Heap) (locs : List Loc) (ls : Array Slot), va_P (dC, dI) vwCl [(h0, .inl (cI, n0, .inl p3_a)), (h1, .inl (cL, n1, .inr (.inl p4_a)))] H → va_D A [(h0, .inl (cI, n0, .inl p3_a)), (h1, .inl (cL, n1, .inr (.inl p4_a)))] → va_S A s.heap H locs → lv_has ls 11 [(0, .int p1), (1, .int p2), (2, .ref h0), (3, .ref h1), (4, .int x2), (5, .int q4), (6, .long y6_87), (8, .int y8_87), (9, .int y9_87)] → W p l e rmL_load s m args below meth c H locs 0 0 Q (F0 m 104 ls [.int q13, .int p1]) := by
              intro H locs ls hP hD hS hl
              refine lv_iload hx hb dL_load_104 (lv_at hl 8 rfl) ?_
              refine lv_iload_n hx hb dL_load_106 rfl (lv_at hl 1 rfl) ?_
              refine lv_aload_n hx hb dL_load_107 rfl (lv_at hl 2 rfl) ?_
              refine lv_aload_n hx hb dL_load_108 rfl (lv_at hl 3 rfl) ?_
              obtain ⟨q14, hq14, hd⟩ := bnd_some hd
              have hPc : va_P (dC, dI) vwCl [(h0, .inl (cI, n0, .inl p3_a)), (h1, .inl (cL, n1, .inr (.inl p4_a)))] _ := hP.sub [0, 1] rfl
              have hDc := hD.sub (ws' := [(h0, .inl (cI, n0, .inl p3_a)), (h1, .inl (cL, n1, .inr (.inl p4_a)))]) [0, 1] (by decide) rfl
              have hFc := va_free (wc := [(h0, .inl (cI, n0, .inl p3_a)), (h1, .inl (cL, n1, .inr (.inl p4_a)))]) hD hS hA [0, 1] rfl
              refine va_calli (va_runS (As := [.int p1, .int q13, .int y9_87, .int p2, .ref h0, .ref h1]) (rest := []) ⟨hx, hb, hml, hown, hts⟩ (c_L_byteOf l dC dI cI cC cT cL h0 h1 n0 n1 H.size p3_a p4_a p1 q13 y9_87 p2 q14 hq14) (va_cwS 6 hts gL_load_L_byteOf rfl rfl rfl hp_L_byteOf ⟨Nat.le_of_ble_eq_true rfl, Nat.le_of_ble_eq_true rfl⟩) ⟨preB_fb, fun U hU hW => preB_mk hU hW hPc hK hDc hN⟩ rfl rfl hl.1 rfl (lv_room (Nat.le_of_ble_eq_true rfl)) dL_load_109 ⟨Nat.zero_le _, Nat.zero_le _⟩) hS (fun q _ h => hFc q h) hFc (fun r_ u_ t H locs ht hvm hw hB hz1 hk1 hS => ?_)
              have hw : r_ = q14 := hw
              have hw := hw.symm
              subst hw
              obtain ⟨hP, hD⟩ := x_join (ws' := [(h0, .inl (cI, n0, .inl p3_a)), (h1, .inl (cL, n1, .inr (.inl p4_a)))]) hP hD [0, 1] [] rfl rfl (by decide) (by decide) hk1 hFc ht hB [0, 1] (by decide) rfl
              clear hPc hDc hFc hk1 hB ht hz1 hvm
              refine lv_istore (lv' := [(10, .int q14), (0, .int p1), (1, .int p2), (2, .ref h0), (3, .ref h1), (4, .int x2), (5, .int q4), (6, .long y6_87), (8, .int y8_87), (9, .int y9_87)]) hx hb dL_load_112 hl (by decide) rfl (fun ls hl => ?_)
              refine lv_iload hx hb dL_load_114 (lv_at hl 0 rfl) ?_
              obtain ⟨q15, hq15, hd⟩ := bnd_some hd
              have Kq15 : ∀ (H : Heap) (locs : List Loc) (ls : Array Slot), va_P (dC, dI) vwCl [(h0, .inl (cI, n0, .inl p3_a)), (h1, .inl (cL, n1, .inr (.inl p4_a)))] H → va_D A [(h0, .inl (cI, n0, .inl p3_a)), (h1, .inl (cL, n1, .inr (.inl p4_a)))] → va_S A s.heap H locs → lv_has ls 11 [(0, .int p1), (1, .int p2), (2, .ref h0), (3, .ref h1), (4, .int x2), (5, .int q4), (6, .long y6_87), (8, .int y8_87), (9, .int y9_87)] → W p l e rmL_load s m args below meth c H locs 0 0 Q (F0 m 134 ls [.int q15]) := by
                intro H locs ls hP hD hS hl
                refine lv_istore (lv' := [(10, .int q15), (0, .int p1), (1, .int p2), (2, .ref h0), (3, .ref h1), (4, .int x2), (5, .int q4), (6, .long y6_87), (8, .int y8_87), (9, .int y9_87)]) hx hb dL_load_134 hl (by decide) rfl (fun ls hl => ?_)
                refine lv_iload hx hb dL_load_136 (lv_at hl 0 rfl) ?_
                refine lv_if_ge (tgt := 145) hx hb dL_load_138 (by decide) (fun c16 => ?_) (fun c16 => ?_)
                · replace hd := ite_t c16 hd
                  refine lv_lload hx hb dL_load_145 (lv_at hl 7 rfl) ?_
                  refine lv_bipush (v := 8) hx hb dL_load_147 (by decide) ?_
                  refine lv_lshl (v := (y6_87 <<< (((8 : Int32)).toInt64 &&& 63))) hx hb dL_load_149 rfl ?_
                  refine lv_iload hx hb dL_load_150 (lv_at hl 0 rfl) ?_
                  refine lv_i2l (v := (q15).toInt64) hx hb dL_load_152 rfl ?_
                  refine lv_lor hx hb dL_load_153 ?_
                  refine lv_topl (fun x17 ex17 => ?_)
                  replace hd := nm_some ex17 hd
                  refine lv_lstore (lv' := [(6, .long x17), (10, .int q15), (0, .int p1), (1, .int p2), (2, .ref h0), (3, .ref h1), (4, .int x2), (5, .int q4), (8, .int y8_87), (9, .int y9_87)]) hx hb dL_load_154 hl (by decide) rfl (fun ls hl => ?_)
                  refine lv_iload hx hb dL_load_156 (lv_at hl 8 rfl) ?_
                  refine lv_iload hx hb dL_load_158 (lv_at hl 1 rfl) ?_
                  refine lv_iadd hx hb dL_load_160 ?_
                  refine lv_istore (lv' := [(8, .int (y8_87 + q15)), (6, .long x17), (10, .int q15), (0, .int p1), (1, .int p2), (2, .ref h0), (3, .ref h1), (4, .int x2), (5, .int q4), (9, .int y9_87)]) hx hb dL_load_161 hl (by decide) rfl (fun ls hl => ?_)
                  refine lv_iinc (v := (y9_87 + (-1 : Int32))) (lv' := [(9, .int (y9_87 + (-1 : Int32))), (8, .int (y8_87 + q15)), (6, .long x17), (10, .int q15), (0, .int p1), (1, .int p2), (2, .ref h0), (3, .ref h1), (4, .int x2), (5, .int q4)]) hx hb dL_load_163 hl (k := 9) rfl (by first | rfl | decide) (by decide) rfl (fun ls hl => ?_)
                  refine lv_goto (tgt := 87) hx hb dL_load_166 (by decide) ?_
                  exact ih x17 (y8_87 + q15) (y9_87 + (-1 : Int32)) hd _ _ _ hP hD hS (lv_sub hl [4, 5, 6, 7, 8, 9, 2, 1, 0] rfl)
                · replace hd := ite_f c16 hd
                  refine lv_ldc2 (v := -6) hx hb hown (hts _ kL_load_1) dL_load_141 ?_
                  cases hd
                  exact hend (by rfl) hP hD hS dL_load_144
              replace hd := hq15
              clear hq15
              refine lv_if_ge (tgt := 132) hx hb dL_load_116 (by decide) (fun c18 => ?_) (fun c18 => ?_)
              · replace hd := ite_t c18 hd
                refine lv_iload hx hb dL_load_132 (lv_at hl 0 rfl) ?_
                cases hd
                exact Kq15 _ _ _ hP hD hS (lv_sub hl [1, 2, 3, 4, 5, 6, 7, 8, 9] rfl)
              · replace hd := ite_f c18 hd
                refine lv_iload_n hx hb dL_load_119 rfl (lv_at hl 1 rfl) ?_
                refine lv_iconst (v := 1) hx hb dL_load_120 (by decide) ?_
                refine lv_iload hx hb dL_load_121 (lv_at hl 9 rfl) ?_
                refine lv_iload_n hx hb dL_load_123 rfl (lv_at hl 2 rfl) ?_
                refine lv_aload_n hx hb dL_load_124 rfl (lv_at hl 3 rfl) ?_
                refine lv_aload_n hx hb dL_load_125 rfl (lv_at hl 4 rfl) ?_
                obtain ⟨q19, hq19, hd⟩ := bnd_some hd
                have hPc : va_P (dC, dI) vwCl [(h0, .inl (cI, n0, .inl p3_a)), (h1, .inl (cL, n1, .inr (.inl p4_a)))] _ := hP.sub [0, 1] rfl
                have hDc := hD.sub (ws' := [(h0, .inl (cI, n0, .inl p3_a)), (h1, .inl (cL, n1, .inr (.inl p4_a)))]) [0, 1] (by decide) rfl
                have hFc := va_free (wc := [(h0, .inl (cI, n0, .inl p3_a)), (h1, .inl (cL, n1, .inr (.inl p4_a)))]) hD hS hA [0, 1] rfl
                refine va_calli (va_runS (As := [.int p1, .int (1 : Int32), .int y9_87, .int p2, .ref h0, .ref h1]) (rest := []) ⟨hx, hb, hml, hown, hts⟩ (c_L_byteOf l dC dI cI cC cT cL h0 h1 n0 n1 H.size p3_a p4_a p1 (1 : Int32) y9_87 p2 q19 hq19) (va_cwS 6 hts gL_load_L_byteOf rfl rfl rfl hp_L_byteOf ⟨Nat.le_of_ble_eq_true rfl, Nat.le_of_ble_eq_true rfl⟩) ⟨preB_fb, fun U hU hW => preB_mk hU hW hPc hK hDc hN⟩ rfl rfl hl.1 rfl (lv_room (Nat.le_of_ble_eq_true rfl)) dL_load_126 ⟨Nat.zero_le _, Nat.zero_le _⟩) hS (fun q _ h => hFc q h) hFc (fun r_ u_ t H locs ht hvm hw hB hz1 hk1 hS => ?_)
                have hw : r_ = q19 := hw
                have hw := hw.symm
                subst hw
                obtain ⟨hP, hD⟩ := x_join (ws' := [(h0, .inl (cI, n0, .inl p3_a)), (h1, .inl (cL, n1, .inr (.inl p4_a)))]) hP hD [0, 1] [] rfl rfl (by decide) (by decide) hk1 hFc ht hB [0, 1] (by decide) rfl
                clear hPc hDc hFc hk1 hB ht hz1 hvm
                refine lv_goto (tgt := 134) hx hb dL_load_129 (by decide) ?_
                cases hd
                exact Kq15 _ _ _ hP hD hS (lv_sub hl [1, 2, 3, 4, 5, 6, 7, 8, 9] rfl)
            replace hd := hq13
            clear hq13
            refine lv_icmp_ne (tgt := 103) hx hb dL_load_96 (by decide) (fun c20 => ?_) (fun c20 => ?_)
            · replace hd := ite_f c20 hd
              refine lv_iconst (v := 0) hx hb dL_load_103 (by decide) ?_
              cases hd
              exact Kq13 _ _ _ hP hD hS (lv_sub hl [0, 1, 2, 3, 4, 5, 6, 7, 8] rfl)
            · replace hd := ite_t c20 hd
              refine lv_iconst (v := 1) hx hb dL_load_99 (by decide) ?_
              refine lv_goto (tgt := 104) hx hb dL_load_100 (by decide) ?_
              cases hd
              exact Kq13 _ _ _ hP hD hS (lv_sub hl [0, 1, 2, 3, 4, 5, 6, 7, 8] rfl)
      exact KL21 FU (0 : Int64) (0 : Int32) (x2 - (1 : Int32)) hd _ _ _ hP hD hS (lv_sub hl [3, 4, 5, 6, 7, 8, 2, 1, 0] rfl)
    refine lv_icmp_ne (tgt := 75) hx hb dL_load_46 (by decide) (fun c22 => ?_) (fun c22 => ?_)
    · replace hd := ite_f c22 hd
      exact KJ5 () hd _ _ _ hP hD hS (lv_sub hl [1, 2, 3, 4, 5, 0] rfl)
    · replace hd := ite_t c22 hd
      refine lv_iload_n hx hb dL_load_49 rfl (lv_at hl 1 rfl) ?_
      refine lv_iconst (v := 0) hx hb dL_load_50 (by decide) ?_
      refine lv_iload_n hx hb dL_load_51 rfl (lv_at hl 2 rfl) ?_
      refine lv_aload_n hx hb dL_load_52 rfl (lv_at hl 3 rfl) ?_
      refine lv_aload_n hx hb dL_load_53 rfl (lv_at hl 4 rfl) ?_
      obtain ⟨q23, hq23, hd⟩ := bnd_some hd
      have hPc : va_P (dC, dI) vwCl [(h0, .inl (cI, n0, .inl p3_a)), (h1, .inl (cL, n1, .inr (.inl p4_a)))] _ := hP.sub [0, 1] rfl
      have hDc := hD.sub (ws' := [(h0, .inl (cI, n0, .inl p3_a)), (h1, .inl (cL, n1, .inr (.inl p4_a)))]) [0, 1] (by decide) rfl
      have hFc := va_free (wc := [(h0, .inl (cI, n0, .inl p3_a)), (h1, .inl (cL, n1, .inr (.inl p4_a)))]) hD hS hA [0, 1] rfl
      refine va_calli (va_runS (As := [.int p1, .int (0 : Int32), .int p2, .ref h0, .ref h1]) (rest := []) ⟨hx, hb, hml, hown, hts⟩ (c_L_lost l dC dI cI cC cT cL h0 h1 n0 n1 H.size p3_a p4_a p1 (0 : Int32) p2 q23 hq23) (va_cwS 5 hts gL_load_L_lost rfl rfl rfl hp_L_lost ⟨Nat.le_of_ble_eq_true rfl, Nat.le_of_ble_eq_true rfl⟩) ⟨preB_fb, fun U hU hW => preB_mk hU hW hPc hK hDc hN⟩ rfl rfl hl.1 rfl (lv_room (Nat.le_of_ble_eq_true rfl)) dL_load_54 ⟨Nat.zero_le _, Nat.zero_le _⟩) hS (fun q _ h => hFc q h) hFc (fun r_ u_ t H locs ht hvm hw hB hz1 hk1 hS => ?_)
      have hw : r_ = q23 := hw
      have hw := hw.symm
      subst hw
      obtain ⟨hP, hD⟩ := x_join (ws' := [(h0, .inl (cI, n0, .inl p3_a)), (h1, .inl (cL, n1, .inr (.inl p4_a)))]) hP hD [0, 1] [] rfl rfl (by decide) (by decide) hk1 hFc ht hB [0, 1] (by decide) rfl
      clear hPc hDc hFc hk1 hB ht hz1 hvm
      refine lv_if_ne (tgt := 71) hx hb dL_load_57 (by decide) (fun c24 => ?_) (fun c24 => ?_)
      · replace hd := ite_f c24 hd
        refine lv_ldc2 (v := -6) hx hb hown (hts _ kL_load_1) dL_load_71 ?_
        cases hd
        exact hend (by rfl) hP hD hS dL_load_74
      · replace hd := ite_t c24 hd
        refine lv_iload_n hx hb dL_load_60 rfl (lv_at hl 1 rfl) ?_
        refine lv_iconst (v := 1) hx hb dL_load_61 (by decide) ?_
        refine lv_iload_n hx hb dL_load_62 rfl (lv_at hl 2 rfl) ?_
        refine lv_aload_n hx hb dL_load_63 rfl (lv_at hl 3 rfl) ?_
        refine lv_aload_n hx hb dL_load_64 rfl (lv_at hl 4 rfl) ?_
        obtain ⟨q25, hq25, hd⟩ := bnd_some hd
        have hPc : va_P (dC, dI) vwCl [(h0, .inl (cI, n0, .inl p3_a)), (h1, .inl (cL, n1, .inr (.inl p4_a)))] _ := hP.sub [0, 1] rfl
        have hDc := hD.sub (ws' := [(h0, .inl (cI, n0, .inl p3_a)), (h1, .inl (cL, n1, .inr (.inl p4_a)))]) [0, 1] (by decide) rfl
        have hFc := va_free (wc := [(h0, .inl (cI, n0, .inl p3_a)), (h1, .inl (cL, n1, .inr (.inl p4_a)))]) hD hS hA [0, 1] rfl
        refine va_calli (va_runS (As := [.int p1, .int (1 : Int32), .int p2, .ref h0, .ref h1]) (rest := []) ⟨hx, hb, hml, hown, hts⟩ (c_L_lost l dC dI cI cC cT cL h0 h1 n0 n1 H.size p3_a p4_a p1 (1 : Int32) p2 q25 hq25) (va_cwS 5 hts gL_load_L_lost rfl rfl rfl hp_L_lost ⟨Nat.le_of_ble_eq_true rfl, Nat.le_of_ble_eq_true rfl⟩) ⟨preB_fb, fun U hU hW => preB_mk hU hW hPc hK hDc hN⟩ rfl rfl hl.1 rfl (lv_room (Nat.le_of_ble_eq_true rfl)) dL_load_65 ⟨Nat.zero_le _, Nat.zero_le _⟩) hS (fun q _ h => hFc q h) hFc (fun r_ u_ t H locs ht hvm hw hB hz1 hk1 hS => ?_)
        have hw : r_ = q25 := hw
        have hw := hw.symm
        subst hw
        obtain ⟨hP, hD⟩ := x_join (ws' := [(h0, .inl (cI, n0, .inl p3_a)), (h1, .inl (cL, n1, .inr (.inl p4_a)))]) hP hD [0, 1] [] rfl rfl (by decide) (by decide) hk1 hFc ht hB [0, 1] (by decide) rfl
        clear hPc hDc hFc hk1 hB ht hz1 hvm
        refine lv_if_eq (tgt := 75) hx hb dL_load_68 (by decide) (fun c26 => ?_) (fun c26 => ?_)
        · replace hd := ite_t c26 hd
          exact KJ5 () hd _ _ _ hP hD hS (lv_sub hl [1, 2, 3, 4, 5, 0] rfl)
        · replace hd := ite_f c26 hd
          refine lv_ldc2 (v := -6) hx hb hown (hts _ kL_load_1) dL_load_71 ?_
          cases hd
          exact hend (by rfl) hP hD hS dL_load_74
  replace hd := hq4
  clear hq4
  refine lv_if_ne (tgt := 25) hx hb dL_load_18 (by decide) (fun c27 => ?_) (fun c27 => ?_)
  · replace hd := ite_f c27 hd
    refine lv_iload_n hx hb dL_load_25 rfl (lv_at hl 1 rfl) ?_
    refine lv_iconst (v := 1) hx hb dL_load_26 (by decide) ?_
    refine lv_iload_n hx hb dL_load_27 rfl (lv_at hl 2 rfl) ?_
    refine lv_aload_n hx hb dL_load_28 rfl (lv_at hl 3 rfl) ?_
    refine lv_aload_n hx hb dL_load_29 rfl (lv_at hl 4 rfl) ?_
    obtain ⟨q28, hq28, hd⟩ := bnd_some hd
    have hPc : va_P (dC, dI) vwCl [(h0, .inl (cI, n0, .inl p3_a)), (h1, .inl (cL, n1, .inr (.inl p4_a)))] _ := hP.sub [0, 1] rfl
    have hDc := hD.sub (ws' := [(h0, .inl (cI, n0, .inl p3_a)), (h1, .inl (cL, n1, .inr (.inl p4_a)))]) [0, 1] (by decide) rfl
    have hFc := va_free (wc := [(h0, .inl (cI, n0, .inl p3_a)), (h1, .inl (cL, n1, .inr (.inl p4_a)))]) hD hS hA [0, 1] rfl
    refine va_calli (va_runS (As := [.int p1, .int (1 : Int32), .int p2, .ref h0, .ref h1]) (rest := []) ⟨hx, hb, hml, hown, hts⟩ (c_L_how l dC dI cI cC cT cL h0 h1 n0 n1 H.size p3_a p4_a p1 (1 : Int32) p2 q28 hq28) (va_cwS 5 hts gL_load_L_how rfl rfl rfl hp_L_how ⟨Nat.le_of_ble_eq_true rfl, Nat.le_of_ble_eq_true rfl⟩) ⟨preB_fb, fun U hU hW => preB_mk hU hW hPc hK hDc hN⟩ rfl rfl hl.1 rfl (lv_room (Nat.le_of_ble_eq_true rfl)) dL_load_30 ⟨Nat.zero_le _, Nat.zero_le _⟩) hS (fun q _ h => hFc q h) hFc (fun r_ u_ t H locs ht hvm hw hB hz1 hk1 hS => ?_)
    have hw : r_ = q28 := hw
    have hw := hw.symm
    subst hw
    obtain ⟨hP, hD⟩ := x_join (ws' := [(h0, .inl (cI, n0, .inl p3_a)), (h1, .inl (cL, n1, .inr (.inl p4_a)))]) hP hD [0, 1] [] rfl rfl (by decide) (by decide) hk1 hFc ht hB [0, 1] (by decide) rfl
    clear hPc hDc hFc hk1 hB ht hz1 hvm
    refine lv_if_ne (tgt := 40) hx hb dL_load_33 (by decide) (fun c29 => ?_) (fun c29 => ?_)
    · replace hd := ite_f c29 hd
      refine lv_iconst (v := 2) hx hb dL_load_40 (by decide) ?_
      cases hd
      exact Kq4 _ _ _ hP hD hS (lv_sub hl [1, 2, 3, 4, 0] rfl)
    · replace hd := ite_t c29 hd
      refine lv_iconst (v := 1) hx hb dL_load_36 (by decide) ?_
      refine lv_goto (tgt := 41) hx hb dL_load_37 (by decide) ?_
      cases hd
      exact Kq4 _ _ _ hP hD hS (lv_sub hl [1, 2, 3, 4, 0] rfl)
  · replace hd := ite_t c27 hd
    refine lv_iconst (v := 0) hx hb dL_load_21 (by decide) ?_
    refine lv_goto (tgt := 41) hx hb dL_load_22 (by decide) ?_
    cases hd
    exact Kq4 _ _ _ hP hD hS (lv_sub hl [1, 2, 3, 4, 0] rfl)
def rmL_counter : Room := { frames := 0, cells := 0, slots := 0, locals := 0 }
theorem hp_L_counter : yL_counter.cls ≠ "java/lang/invoke/MethodHandle" ∧ yL_counter.cls ≠ "java/lang/invoke/VarHandle" ∧ (parseMethodDescriptor yL_counter.desc).map (fun d => d.parameters.length) = some 2 := by decide +kernel
set_option maxHeartbeats 4000000 in
set_option maxRecDepth 100000 in
theorem c_L_counter (l : Launch) (dC : Nat → ClassId) (dI : Nat → Nat → Nat) (cI cC cT cL : ClassId) (h0 : Nat) (n0 : Nat) (sz : Nat) (p2_a : (Nat → Int32)) (p1 : Int32) (r : Int32) (hd : den_L_counter n0 p2_a p1 = some r) : Met l yL_counter wsL_counter rmL_counter (va_Pc [.int p1, .ref h0] (preB sz (dC, dI) [(h0, .inl (cI, n0, .inl p2_a))] [(cI, .int), (cC, .char), (cT, .object "CassetteTones$Tape"), (cL, .long)])) (va_Qi (S := Unit) (fun v _ => v = r) (fun _ t => posB (dC, dI) [(h0, .inl (cI, n0, .inl p2_a))] [(cI, .int), (cC, .char), (cT, .object "CassetteTones$Tape"), (cL, .long)] (va_A [(h0, .inl (cI, n0, .inl p2_a))] sz) t) (va_A [(h0, .inl (cI, n0, .inl p2_a))] sz)) 0 0 (va_A [(h0, .inl (cI, n0, .inl p2_a))] sz) := by
  refine x_met_i (by decide) rfl (Nat.le_of_ble_eq_true rfl) ?_
  intro p e s m args below meth c A Q H locs ls hx hb hml hown hts hK hN hA hP hD hS hl hend
  have hown : s.vm.findClass RL = some m.cls := hown
  have hl : lv_has ls 2 [(0, .int p1), (1, .ref h0)] := hl
  unfold den_L_counter at hd
  refine lv_iload_n hx hb dL_counter_0 rfl (lv_at hl 0 rfl) ?_
  refine lv_iload_n hx hb dL_counter_1 rfl (lv_at hl 0 rfl) ?_
  refine lv_aload_n hx hb dL_counter_2 rfl (lv_at hl 1 rfl) ?_
  refine lv_iconst (v := 2) hx hb dL_counter_3 (by decide) ?_
  obtain ⟨g1, hd⟩ := gd_some hd
  refine x_iald (k := 2) hx hb hK hP 0 0 rfl rfl (inb_in g1) rfl dL_counter_4 ?_
  refine lv_imul hx hb dL_counter_5 ?_
  refine lv_bipush (v := 100) hx hb dL_counter_6 (by decide) ?_
  refine lv_idiv hx hb dL_counter_8 (by decide) ?_
  refine lv_isub hx hb dL_counter_9 ?_
  refine lv_sipush (v := 1000) hx hb dL_counter_10 (by decide) ?_
  refine lv_irem hx hb dL_counter_13 (by decide) ?_
  cases hd
  exact hend (by rfl) hP hD hS dL_counter_14
def rmL_far : Room := { frames := 1, cells := 0, slots := 0, locals := 21 }
theorem hp_L_far : yL_far.cls ≠ "java/lang/invoke/MethodHandle" ∧ yL_far.cls ≠ "java/lang/invoke/VarHandle" ∧ (parseMethodDescriptor yL_far.desc).map (fun d => d.parameters.length) = some 4 := by decide +kernel
set_option maxHeartbeats 4000000 in
set_option maxRecDepth 100000 in
theorem c_L_far (l : Launch) (dC : Nat → ClassId) (dI : Nat → Nat → Nat) (cI cC cT cL : ClassId) (h0 h1 : Nat) (n0 n1 : Nat) (sz : Nat) (p3_a : (Nat → Int32)) (p4_a : (Nat → Int32)) (p1 : Int32) (p2 : Int32) (r : Int32) (hd : den_L_far n0 n1 p3_a p4_a p1 p2 = some r) : Met l yL_far wsL_far rmL_far (va_Pc [.int p1, .int p2, .ref h0, .ref h1] (preB sz (dC, dI) [(h0, .inl (cI, n0, .inl p3_a)), (h1, .inl (cI, n1, .inl p4_a))] [(cI, .int), (cC, .char), (cT, .object "CassetteTones$Tape"), (cL, .long)])) (va_Qi (S := Unit) (fun v _ => v = r) (fun _ t => posB (dC, dI) [(h0, .inl (cI, n0, .inl p3_a)), (h1, .inl (cI, n1, .inl p4_a))] [(cI, .int), (cC, .char), (cT, .object "CassetteTones$Tape"), (cL, .long)] (va_A [(h0, .inl (cI, n0, .inl p3_a)), (h1, .inl (cI, n1, .inl p4_a))] sz) t) (va_A [(h0, .inl (cI, n0, .inl p3_a)), (h1, .inl (cI, n1, .inl p4_a))] sz)) 0 0 (va_A [(h0, .inl (cI, n0, .inl p3_a)), (h1, .inl (cI, n1, .inl p4_a))] sz) := by
  refine x_met_i (by decide) rfl (Nat.le_of_ble_eq_true rfl) ?_
  intro p e s m args below meth c A Q H locs ls hx hb hml hown hts hK hN hA hP hD hS hl hend
  have hown : s.vm.findClass RL = some m.cls := hown
  have hl : lv_has ls 5 [(0, .int p1), (1, .int p2), (2, .ref h0), (3, .ref h1)] := hl
  unfold den_L_far at hd
  refine lv_aload_n hx hb dL_far_0 rfl (lv_at hl 3 rfl) ?_
  refine lv_bipush (v := 8) hx hb dL_far_1 (by decide) ?_
  refine lv_iload_n hx hb dL_far_3 rfl (lv_at hl 0 rfl) ?_
  refine lv_imul hx hb dL_far_4 ?_
  refine lv_iconst (v := 3) hx hb dL_far_5 (by decide) ?_
  refine lv_iadd hx hb dL_far_6 ?_
  obtain ⟨g1, hd⟩ := gd_some hd
  refine x_iald (k := (((8 : Int32) * p1) + (3 : Int32)).toNatClampNeg) hx hb hK hP 1 0 rfl rfl (inb_in g1) rfl dL_far_7 ?_
  refine lv_aload_n hx hb dL_far_8 rfl (lv_at hl 2 rfl) ?_
  obtain ⟨q2, hq2, hd⟩ := bnd_some hd
  have hPc : va_P (dC, dI) vwCl [(h0, .inl (cI, n0, .inl p3_a))] _ := hP.sub [0] rfl
  have hDc := hD.sub (ws' := [(h0, .inl (cI, n0, .inl p3_a))]) [0] (by decide) rfl
  have hFc := va_free (wc := [(h0, .inl (cI, n0, .inl p3_a))]) hD hS hA [0] rfl
  refine va_calli (va_runS (As := [.int (p4_a (((8 : Int32) * p1) + (3 : Int32)).toNatClampNeg), .ref h0]) (rest := []) ⟨hx, hb, hml, hown, hts⟩ (c_L_counter l dC dI cI cC cT cL h0 n0 H.size p3_a (p4_a (((8 : Int32) * p1) + (3 : Int32)).toNatClampNeg) q2 hq2) (va_cwS 2 hts gL_far_L_counter rfl rfl rfl hp_L_counter ⟨Nat.le_of_ble_eq_true rfl, Nat.le_of_ble_eq_true rfl⟩) ⟨preB_fb, fun U hU hW => preB_mk hU hW hPc hK hDc hN⟩ rfl rfl hl.1 rfl (lv_room (Nat.le_of_ble_eq_true rfl)) dL_far_9 ⟨Nat.zero_le _, Nat.zero_le _⟩) hS (fun q _ h => hFc q h) hFc (fun r_ u_ t H locs ht hvm hw hB hz1 hk1 hS => ?_)
  have hw : r_ = q2 := hw
  have hw := hw.symm
  subst hw
  obtain ⟨hP, hD⟩ := x_join (ws' := [(h0, .inl (cI, n0, .inl p3_a)), (h1, .inl (cI, n1, .inl p4_a))]) hP hD [0] [1] rfl rfl (by decide) (by decide) hk1 hFc ht hB [1, 0] (by decide) rfl
  clear hPc hDc hFc hk1 hB ht hz1 hvm
  refine lv_iload_n hx hb dL_far_12 rfl (lv_at hl 1 rfl) ?_
  refine lv_isub hx hb dL_far_13 ?_
  refine lv_sipush (v := 1000) hx hb dL_far_14 (by decide) ?_
  refine lv_iadd hx hb dL_far_17 ?_
  refine lv_sipush (v := 1000) hx hb dL_far_18 (by decide) ?_
  refine lv_irem hx hb dL_far_21 (by decide) ?_
  refine lv_topi (fun x3 ex3 => ?_)
  replace hd := nm_some ex3 hd
  refine lv_istore (lv' := [(4, .int x3), (0, .int p1), (1, .int p2), (2, .ref h0), (3, .ref h1)]) hx hb dL_far_22 hl (by decide) rfl (fun ls hl => ?_)
  refine lv_iload hx hb dL_far_24 (lv_at hl 0 rfl) ?_
  refine lv_sipush (v := 1000) hx hb dL_far_26 (by decide) ?_
  refine lv_iload hx hb dL_far_29 (lv_at hl 0 rfl) ?_
  refine lv_isub hx hb dL_far_31 ?_
  refine lv_icmp_ge (tgt := 40) hx hb dL_far_32 (by decide) (fun c4 => ?_) (fun c4 => ?_)
  · replace hd := ite_t c4 hd
    refine lv_sipush (v := 1000) hx hb dL_far_40 (by decide) ?_
    refine lv_iload hx hb dL_far_43 (lv_at hl 0 rfl) ?_
    refine lv_isub hx hb dL_far_45 ?_
    cases hd
    exact hend (by rfl) hP hD hS dL_far_46
  · replace hd := ite_f c4 hd
    refine lv_iload hx hb dL_far_35 (lv_at hl 0 rfl) ?_
    refine lv_goto (tgt := 46) hx hb dL_far_37 (by decide) ?_
    cases hd
    exact hend (by rfl) hP hD hS dL_far_46
