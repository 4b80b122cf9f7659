set_option linter.unusedVariables false
def rmX6_valueAt : Room := { frames := 0, cells := 0, slots := 0, locals := 0 }
theorem hp_X6_valueAt : yX6_valueAt.cls ≠ "java/lang/invoke/MethodHandle" ∧ yX6_valueAt.cls ≠ "java/lang/invoke/VarHandle" ∧ (parseMethodDescriptor yX6_valueAt.desc).map (fun d => d.parameters.length) = some 2 := by decide +kernel
set_option maxHeartbeats 4000000 in
set_option maxRecDepth 100000 in
theorem c_X6_valueAt (l : Launch) (dC : Nat → ClassId) (dI : Nat → Nat → Nat) (cI cC cT cL : ClassId) (h0 : Nat) (n0 : Nat) (sz : Nat) (p1_a : (Nat → Int32)) (p2 : Int32) (r : Int32) (hd : den_X6_valueAt n0 p1_a p2 = some r) : Met l yX6_valueAt wsX6_valueAt rmX6_valueAt (va_Pc [.ref h0, .int p2] (preB sz (dC, dI) [(h0, .inl (cI, n0, .inl p1_a))] [(cI, .int), (cC, .char), (cT, .object "CassetteTones$Tape"), (cL, .long)])) (va_Qi (S := Unit) (fun v _ => v = r) (fun _ t => posB (dC, dI) [(h0, .inl (cI, n0, .inl p1_a))] [(cI, .int), (cC, .char), (cT, .object "CassetteTones$Tape"), (cL, .long)] (va_A [(h0, .inl (cI, n0, .inl p1_a))] sz) t) (va_A [(h0, .inl (cI, n0, .inl p1_a))] sz)) 0 0 (va_A [(h0, .inl (cI, n0, .inl p1_a))] sz) := by
  refine x_met_i (by decide) rfl (Nat.le_of_ble_eq_true rfl) ?_
  intro p e s m args below meth c A Q H locs ls hx hb hml hown hts hK hN hA hP hD hS hl hend
  have hown : s.vm.findClass RX6 = some m.cls := hown
  have hl : lv_has ls 2 [(0, .ref h0), (1, .int p2)] := hl
  unfold den_X6_valueAt at hd
  refine lv_iload_n hx hb dX6_valueAt_0 rfl (lv_at hl 1 rfl) ?_
  refine lv_if_lt (tgt := 16) hx hb dX6_valueAt_1 (by decide) (fun c1 => ?_) (fun c1 => ?_)
  · replace hd := ite_t c1 hd
    refine lv_iconst (v := 0) hx hb dX6_valueAt_16 (by decide) ?_
    cases hd
    exact hend (by rfl) hP hD hS dX6_valueAt_17
  · replace hd := ite_f c1 hd
    refine lv_iload_n hx hb dX6_valueAt_4 rfl (lv_at hl 1 rfl) ?_
    refine lv_aload_n hx hb dX6_valueAt_5 rfl (lv_at hl 0 rfl) ?_
    refine va_alen (v := Int32.ofNat n0) hx hb hK hP 0 0 rfl rfl rfl dX6_valueAt_6 ?_
    refine lv_icmp_ge (tgt := 16) hx hb dX6_valueAt_7 (by decide) (fun c2 => ?_) (fun c2 => ?_)
    · replace hd := ite_t c2 hd
      refine lv_iconst (v := 0) hx hb dX6_valueAt_16 (by decide) ?_
      cases hd
      exact hend (by rfl) hP hD hS dX6_valueAt_17
    · replace hd := ite_f c2 hd
      refine lv_aload_n hx hb dX6_valueAt_10 rfl (lv_at hl 0 rfl) ?_
      refine lv_iload_n hx hb dX6_valueAt_11 rfl (lv_at hl 1 rfl) ?_
      obtain ⟨g3, hd⟩ := gd_some hd
      refine x_iald (k := p2.toNatClampNeg) hx hb hK hP 0 0 rfl rfl (inb_in g3) rfl dX6_valueAt_12 ?_
      refine lv_goto (tgt := 17) hx hb dX6_valueAt_13 (by decide) ?_
      cases hd
      exact hend (by rfl) hP hD hS dX6_valueAt_17
def rmX6_setValue : Room := { frames := 0, cells := 0, slots := 0, locals := 0 }
theorem hp_X6_setValue : yX6_setValue.cls ≠ "java/lang/invoke/MethodHandle" ∧ yX6_setValue.cls ≠ "java/lang/invoke/VarHandle" ∧ (parseMethodDescriptor yX6_setValue.desc).map (fun d => d.parameters.length) = some 3 := by decide +kernel
set_option maxHeartbeats 4000000 in
set_option maxRecDepth 100000 in
theorem c_X6_setValue (l : Launch) (dC : Nat → ClassId) (dI : Nat → Nat → Nat) (cI cC cT cL : ClassId) (h0 : Nat) (n0 : Nat) (sz : Nat) (p1_a : (Nat → Int32)) (p2 : Int32) (p3 : Int32) (r : (Nat → Int32)) (hd : den_X6_setValue n0 p1_a p2 p3 = some r) : Met l yX6_setValue wsX6_setValue rmX6_setValue (va_Pc [.ref h0, .int p2, .int p3] (preB sz (dC, dI) [(h0, .inl (cI, n0, .inl p1_a))] [(cI, .int), (cC, .char), (cT, .object "CassetteTones$Tape"), (cL, .long)])) (va_Qv (S := Unit) (fun _ => True) (fun _ t => posB (dC, dI) [(h0, .inl (cI, n0, .inl r))] [(cI, .int), (cC, .char), (cT, .object "CassetteTones$Tape"), (cL, .long)] (va_A [(h0, .inl (cI, n0, .inl p1_a))] sz) t) (va_A [(h0, .inl (cI, n0, .inl p1_a))] sz)) 0 0 (va_A [(h0, .inl (cI, n0, .inl p1_a))] sz) := by
  refine x_met_v (by decide) rfl (Nat.le_of_ble_eq_true rfl) ?_
  intro p e s m args below meth c A Q H locs ls hx hb hml hown hts hK hN hA hP hD hS hl hend
  have hown : s.vm.findClass RX6 = some m.cls := hown
  have hl : lv_has ls 3 [(0, .ref h0), (1, .int p2), (2, .int p3)] := hl
  unfold den_X6_setValue at hd
  refine lv_iload_n hx hb dX6_setValue_0 rfl (lv_at hl 1 rfl) ?_
  refine lv_if_lt (tgt := 14) hx hb dX6_setValue_1 (by decide) (fun c1 => ?_) (fun c1 => ?_)
  · replace hd := ite_t c1 hd
    cases hd
    exact hend hP hD hS dX6_setValue_14
  · replace hd := ite_f c1 hd
    refine lv_iload_n hx hb dX6_setValue_4 rfl (lv_at hl 1 rfl) ?_
    refine lv_aload_n hx hb dX6_setValue_5 rfl (lv_at hl 0 rfl) ?_
    refine va_alen (v := Int32.ofNat n0) hx hb hK hP 0 0 rfl rfl rfl dX6_setValue_6 ?_
    refine lv_icmp_ge (tgt := 14) hx hb dX6_setValue_7 (by decide) (fun c2 => ?_) (fun c2 => ?_)
    · replace hd := ite_t c2 hd
      cases hd
      exact hend hP hD hS dX6_setValue_14
    · replace hd := ite_f c2 hd
      refine lv_aload_n hx hb dX6_setValue_10 rfl (lv_at hl 0 rfl) ?_
      refine lv_iload_n hx hb dX6_setValue_11 rfl (lv_at hl 1 rfl) ?_
      refine lv_iload_n hx hb dX6_setValue_12 rfl (lv_at hl 2 rfl) ?_
      obtain ⟨g3, hd⟩ := gd_some hd
      refine x_iast (k := p2.toNatClampNeg) hx hb hK hP hD hS 0 0 rfl rfl (inb_in g3) rfl dX6_setValue_13 (fun H locs hP hD hS => ?_)
      have hP : va_P (dC, dI) vwCl [(h0, .inl (cI, n0, .inl (upd p1_a p2.toNatClampNeg p3)))] H := hP
      have hD : va_D A [(h0, .inl (cI, n0, .inl (upd p1_a p2.toNatClampNeg p3)))] := hD
      cases hd
      exact hend hP hD hS dX6_setValue_14
def rmJ9_floorMod_7cf53 : Room := { frames := 0, cells := 0, slots := 0, locals := 0 }
theorem hp_J9_floorMod_7cf53 : yJ9_floorMod_7cf53.cls ≠ "java/lang/invoke/MethodHandle" ∧ yJ9_floorMod_7cf53.cls ≠ "java/lang/invoke/VarHandle" ∧ (parseMethodDescriptor yJ9_floorMod_7cf53.desc).map (fun d => d.parameters.length) = some 2 := by decide +kernel
set_option maxHeartbeats 4000000 in
set_option maxRecDepth 100000 in
theorem c_J9_floorMod_7cf53 (l : Launch) (dC : Nat → ClassId) (dI : Nat → Nat → Nat) (cI cC cT cL : ClassId) (sz : Nat) (p1 : Int32) (p2 : Int32) (r : Int32) (hd : den_J9_floorMod_7cf53 p1 p2 = some r) : Met l yJ9_floorMod_7cf53 wsJ9_floorMod_7cf53 rmJ9_floorMod_7cf53 (va_Pc [.int p1, .int p2] (preB sz (dC, dI) [] [(cI, .int), (cC, .char), (cT, .object "CassetteTones$Tape"), (cL, .long)])) (va_Qi (S := Unit) (fun v _ => v = r) (fun _ t => posB (dC, dI) [] [(cI, .int), (cC, .char), (cT, .object "CassetteTones$Tape"), (cL, .long)] (va_A [] sz) t) (va_A [] sz)) 0 0 (va_A [] sz) := by
  refine x_met_iF (by decide +kernel) rfl (Nat.le_of_ble_eq_true rfl) ?_
  intro p e s m args below meth c A Q H locs ls hx hb hml hown hts hK hN hA hP hD hS hl hend
  have hown : s.vm.findClass RJ9 = some m.cls := hown
  have hl : lv_has ls 3 [(0, .int p1), (1, .int p2)] := hl
  unfold den_J9_floorMod_7cf53 at hd
  refine lv_iload_n hx hb dJ9_floorMod_7cf53_0 rfl (lv_at hl 0 rfl) ?_
  refine lv_iload_n hx hb dJ9_floorMod_7cf53_1 rfl (lv_at hl 1 rfl) ?_
  obtain ⟨g1, hd⟩ := gd_some hd
  refine lv_irem hx hb dJ9_floorMod_7cf53_2 (of_decide_eq_true g1) ?_
  refine lv_istore_n (lv' := [(2, .int (p1 - p1 / p2 * p2)), (0, .int p1), (1, .int p2)]) hx hb dJ9_floorMod_7cf53_3 rfl hl (by decide) rfl (fun ls hl => ?_)
  refine lv_iload_n hx hb dJ9_floorMod_7cf53_4 rfl (lv_at hl 1 rfl) ?_
  refine lv_iload_n hx hb dJ9_floorMod_7cf53_5 rfl (lv_at hl 2 rfl) ?_
  refine lv_ixor hx hb dJ9_floorMod_7cf53_6 ?_
  refine lv_if_ge (tgt := 18) hx hb dJ9_floorMod_7cf53_7 (by decide) (fun c2 => ?_) (fun c2 => ?_)
  · replace hd := ite_t c2 hd
    refine lv_iload_n hx hb dJ9_floorMod_7cf53_18 rfl (lv_at hl 0 rfl) ?_
    cases hd
    exact hend (by rfl) hP hD hS dJ9_floorMod_7cf53_19
  · replace hd := ite_f c2 hd
    refine lv_iload_n hx hb dJ9_floorMod_7cf53_10 rfl (lv_at hl 0 rfl) ?_
    refine lv_if_eq (tgt := 18) hx hb dJ9_floorMod_7cf53_11 (by decide) (fun c3 => ?_) (fun c3 => ?_)
    · replace hd := ite_t c3 hd
      refine lv_iload_n hx hb dJ9_floorMod_7cf53_18 rfl (lv_at hl 0 rfl) ?_
      cases hd
      exact hend (by rfl) hP hD hS dJ9_floorMod_7cf53_19
    · replace hd := ite_f c3 hd
      refine lv_iload_n hx hb dJ9_floorMod_7cf53_14 rfl (lv_at hl 0 rfl) ?_
      refine lv_iload_n hx hb dJ9_floorMod_7cf53_15 rfl (lv_at hl 2 rfl) ?_
      refine lv_iadd hx hb dJ9_floorMod_7cf53_16 ?_
      cases hd
      exact hend (by rfl) hP hD hS dJ9_floorMod_7cf53_17
def rmJ6_bitCount_0f7a4 : Room := { frames := 0, cells := 0, slots := 0, locals := 0 }
theorem kJ6_bitCount_0f7a4_1 : (Cond.constant RJ6 265 (1431655765)) ∈ wsJ6_bitCount_0f7a4 := List.mem_of_getElem? (i := 1) (by decide +kernel)
theorem kJ6_bitCount_0f7a4_2 : (Cond.constant RJ6 266 (858993459)) ∈ wsJ6_bitCount_0f7a4 := List.mem_of_getElem? (i := 2) (by decide +kernel)
theorem kJ6_bitCount_0f7a4_3 : (Cond.constant RJ6 267 (252645135)) ∈ wsJ6_bitCount_0f7a4 := List.mem_of_getElem? (i := 3) (by decide +kernel)
theorem hp_J6_bitCount_0f7a4 : yJ6_bitCount_0f7a4.cls ≠ "java/lang/invoke/MethodHandle" ∧ yJ6_bitCount_0f7a4.cls ≠ "java/lang/invoke/VarHandle" ∧ (parseMethodDescriptor yJ6_bitCount_0f7a4.desc).map (fun d => d.parameters.length) = some 1 := by decide +kernel
set_option maxHeartbeats 4000000 in
set_option maxRecDepth 100000 in
theorem c_J6_bitCount_0f7a4 (l : Launch) (dC : Nat → ClassId) (dI : Nat → Nat → Nat) (cI cC cT cL : ClassId) (sz : Nat) (p1 : Int32) (r : Int32) (hd : den_J6_bitCount_0f7a4 p1 = some r) : Met l yJ6_bitCount_0f7a4 wsJ6_bitCount_0f7a4 rmJ6_bitCount_0f7a4 (va_Pc [.int p1] (preB sz (dC, dI) [] [(cI, .int), (cC, .char), (cT, .object "CassetteTones$Tape"), (cL, .long)])) (va_Qi (S := Unit) (fun v _ => v = r) (fun _ t => posB (dC, dI) [] [(cI, .int), (cC, .char), (cT, .object "CassetteTones$Tape"), (cL, .long)] (va_A [] sz) t) (va_A [] sz)) 0 0 (va_A [] sz) := by
  refine x_met_i (by decide) rfl (Nat.le_of_ble_eq_true rfl) ?_
  intro p e s m args below meth c A Q H locs ls hx hb hml hown hts hK hN hA hP hD hS hl hend
  have hown : s.vm.findClass RJ6 = some m.cls := hown
  have hl : lv_has ls 1 [(0, .int p1)] := hl
  unfold den_J6_bitCount_0f7a4 at hd
  refine lv_iload_n hx hb dJ6_bitCount_0f7a4_0 rfl (lv_at hl 0 rfl) ?_
  refine lv_iload_n hx hb dJ6_bitCount_0f7a4_1 rfl (lv_at hl 0 rfl) ?_
  refine lv_iconst (v := 1) hx hb dJ6_bitCount_0f7a4_2 (by decide) ?_
  refine lv_iushr (v := ((p1).toUInt32 >>> (((1 : Int32)).toUInt32 &&& Int32.toUInt32 31)).toInt32) hx hb dJ6_bitCount_0f7a4_3 rfl ?_
  refine lv_ldcw (v := 1431655765) hx hb hown (hts _ kJ6_bitCount_0f7a4_1) dJ6_bitCount_0f7a4_4 ?_
  refine lv_iand hx hb dJ6_bitCount_0f7a4_7 ?_
  refine lv_isub hx hb dJ6_bitCount_0f7a4_8 ?_
  refine lv_topi (fun x1 ex1 => ?_)
  replace hd := nm_some ex1 hd
  refine lv_istore_n (lv' := [(0, .int x1)]) hx hb dJ6_bitCount_0f7a4_9 rfl hl (by decide) rfl (fun ls hl => ?_)
  refine lv_iload_n hx hb dJ6_bitCount_0f7a4_10 rfl (lv_at hl 0 rfl) ?_
  refine lv_ldcw (v := 858993459) hx hb hown (hts _ kJ6_bitCount_0f7a4_2) dJ6_bitCount_0f7a4_11 ?_
  refine lv_iand hx hb dJ6_bitCount_0f7a4_14 ?_
  refine lv_iload_n hx hb dJ6_bitCount_0f7a4_15 rfl (lv_at hl 0 rfl) ?_
  refine lv_iconst (v := 2) hx hb dJ6_bitCount_0f7a4_16 (by decide) ?_
  refine lv_iushr (v := ((x1).toUInt32 >>> (((2 : Int32)).toUInt32 &&& Int32.toUInt32 31)).toInt32) hx hb dJ6_bitCount_0f7a4_17 rfl ?_
  refine lv_ldcw (v := 858993459) hx hb hown (hts _ kJ6_bitCount_0f7a4_2) dJ6_bitCount_0f7a4_18 ?_
  refine lv_iand hx hb dJ6_bitCount_0f7a4_21 ?_
  refine lv_iadd hx hb dJ6_bitCount_0f7a4_22 ?_
  refine lv_topi (fun x2 ex2 => ?_)
  replace hd := nm_some ex2 hd
  refine lv_istore_n (lv' := [(0, .int x2)]) hx hb dJ6_bitCount_0f7a4_23 rfl hl (by decide) rfl (fun ls hl => ?_)
  refine lv_iload_n hx hb dJ6_bitCount_0f7a4_24 rfl (lv_at hl 0 rfl) ?_
  refine lv_iload_n hx hb dJ6_bitCount_0f7a4_25 rfl (lv_at hl 0 rfl) ?_
  refine lv_iconst (v := 4) hx hb dJ6_bitCount_0f7a4_26 (by decide) ?_
  refine lv_iushr (v := ((x2).toUInt32 >>> (((4 : Int32)).toUInt32 &&& Int32.toUInt32 31)).toInt32) hx hb dJ6_bitCount_0f7a4_27 rfl ?_
  refine lv_iadd hx hb dJ6_bitCount_0f7a4_28 ?_
  refine lv_ldcw (v := 252645135) hx hb hown (hts _ kJ6_bitCount_0f7a4_3) dJ6_bitCount_0f7a4_29 ?_
  refine lv_iand hx hb dJ6_bitCount_0f7a4_32 ?_
  refine lv_topi (fun x3 ex3 => ?_)
  replace hd := nm_some ex3 hd
  refine lv_istore_n (lv' := [(0, .int x3)]) hx hb dJ6_bitCount_0f7a4_33 rfl hl (by decide) rfl (fun ls hl => ?_)
  refine lv_iload_n hx hb dJ6_bitCount_0f7a4_34 rfl (lv_at hl 0 rfl) ?_
  refine lv_iload_n hx hb dJ6_bitCount_0f7a4_35 rfl (lv_at hl 0 rfl) ?_
  refine lv_bipush (v := 8) hx hb dJ6_bitCount_0f7a4_36 (by decide) ?_
  refine lv_iushr (v := ((x3).toUInt32 >>> (((8 : Int32)).toUInt32 &&& Int32.toUInt32 31)).toInt32) hx hb dJ6_bitCount_0f7a4_38 rfl ?_
  refine lv_iadd hx hb dJ6_bitCount_0f7a4_39 ?_
  refine lv_topi (fun x4 ex4 => ?_)
  replace hd := nm_some ex4 hd
  refine lv_istore_n (lv' := [(0, .int x4)]) hx hb dJ6_bitCount_0f7a4_40 rfl hl (by decide) rfl (fun ls hl => ?_)
  refine lv_iload_n hx hb dJ6_bitCount_0f7a4_41 rfl (lv_at hl 0 rfl) ?_
  refine lv_iload_n hx hb dJ6_bitCount_0f7a4_42 rfl (lv_at hl 0 rfl) ?_
  refine lv_bipush (v := 16) hx hb dJ6_bitCount_0f7a4_43 (by decide) ?_
  refine lv_iushr (v := ((x4).toUInt32 >>> (((16 : Int32)).toUInt32 &&& Int32.toUInt32 31)).toInt32) hx hb dJ6_bitCount_0f7a4_45 rfl ?_
  refine lv_iadd hx hb dJ6_bitCount_0f7a4_46 ?_
  refine lv_topi (fun x5 ex5 => ?_)
  replace hd := nm_some ex5 hd
  refine lv_istore_n (lv' := [(0, .int x5)]) hx hb dJ6_bitCount_0f7a4_47 rfl hl (by decide) rfl (fun ls hl => ?_)
  refine lv_iload_n hx hb dJ6_bitCount_0f7a4_48 rfl (lv_at hl 0 rfl) ?_
  refine lv_bipush (v := 63) hx hb dJ6_bitCount_0f7a4_49 (by decide) ?_
  refine lv_iand hx hb dJ6_bitCount_0f7a4_51 ?_
  cases hd
  exact hend (by rfl) hP hD hS dJ6_bitCount_0f7a4_52
def rmX4_firstOf : Room := { frames := 1, cells := 0, slots := 0, locals := 21 }
theorem kX4_firstOf_1 : (Cond.fieldLink RX4 24 "CassetteTones$Tape" "firsts" "[I") ∈ wsX4_firstOf := List.mem_of_getElem? (i := 1) (by decide +kernel)
theorem kX4_firstOf_3 : (Cond.initialized RX6) ∈ wsX4_firstOf := List.mem_of_getElem? (i := 3) (by decide +kernel)
theorem kX4_firstOf_2 : (Cond.static yX6_valueAt) ∈ wsX4_firstOf := List.mem_of_getElem? (i := 2) (by decide +kernel)
theorem inX4_firstOf_X4 : ∀ w ∈ wsX40, w ∈ wsX4_firstOf := by decide +kernel
theorem hp_X4_firstOf : yX4_firstOf.cls ≠ "java/lang/invoke/MethodHandle" ∧ yX4_firstOf.cls ≠ "java/lang/invoke/VarHandle" ∧ (parseMethodDescriptor yX4_firstOf.desc).map (fun d => d.parameters.length) = some 1 := by decide +kernel
theorem hv_X4_firstOf : yX4_firstOf.cls = RX4 ∧ yX4_firstOf.cls ≠ "java/lang/invoke/MethodHandle" ∧ yX4_firstOf.cls ≠ "java/lang/invoke/VarHandle" ∧ (parseMethodDescriptor yX4_firstOf.desc).map (fun d => d.parameters.length) = some 1 := by decide +kernel
set_option maxHeartbeats 4000000 in
set_option maxRecDepth 100000 in
theorem c_X4_firstOf (l : Launch) (dC : Nat → ClassId) (dI : Nat → Nat → Nat) (cI cC cT cL : ClassId) (h0 h1 h2 h3 h4 h5 h6 h7 h8 : Nat) (sz : Nat) (v_blocks : Int32) (v_firsts : (Nat → Int32)) (p1 : Int32) (r : Int32) (hd : den_X4_firstOf v_firsts p1 = some r) : Met l yX4_firstOf wsX4_firstOf rmX4_firstOf (va_Pc [.ref h0, .int p1] (preB sz (dC, dI) [(h0, .inr (4, [.ref h1, .int v_blocks, .ref h2, .ref h3, .ref h4, .ref h5, .ref h6, .ref h7, .ref h8])), (h5, .inl (cI, 17, .inl v_firsts))] [(cI, .int), (cC, .char), (cT, .object "CassetteTones$Tape"), (cL, .long)])) (va_Qi (S := Unit) (fun v _ => v = r) (fun _ t => posB (dC, dI) [(h0, .inr (4, [.ref h1, .int v_blocks, .ref h2, .ref h3, .ref h4, .ref h5, .ref h6, .ref h7, .ref h8])), (h5, .inl (cI, 17, .inl v_firsts))] [(cI, .int), (cC, .char), (cT, .object "CassetteTones$Tape"), (cL, .long)] (va_A [(h0, .inr (4, [.ref h1, .int v_blocks, .ref h2, .ref h3, .ref h4, .ref h5, .ref h6, .ref h7, .ref h8])), (h5, .inl (cI, 17, .inl v_firsts))] sz) t) (va_A [(h0, .inr (4, [.ref h1, .int v_blocks, .ref h2, .ref h3, .ref h4, .ref h5, .ref h6, .ref h7, .ref h8])), (h5, .inl (cI, 17, .inl v_firsts))] sz)) 0 0 (va_A [(h0, .inr (4, [.ref h1, .int v_blocks, .ref h2, .ref h3, .ref h4, .ref h5, .ref h6, .ref h7, .ref h8])), (h5, .inl (cI, 17, .inl v_firsts))] sz) := by
  refine x_met_i (by decide) rfl (Nat.le_of_ble_eq_true rfl) ?_
  intro p e s m args below meth c A Q H locs ls hx hb hml hown hts hK hN hA hP hD hS hl hend
  have hown : s.vm.findClass RX4 = some m.cls := hown
  have hl : lv_has ls 2 [(0, .ref h0), (1, .int p1)] := hl
  unfold den_X4_firstOf at hd
  refine lv_aload_n hx hb dX4_firstOf_0 rfl (lv_at hl 0 rfl) ?_
  refine va_get (D := (dC, dI)) (ci := 4) (v := .ref h5) (C := RX4) (T := TX4) (N := 9) hx hb hts inX4_firstOf_X4 hown hK hP 0 rfl rfl 5 (by decide) (hts _ kX4_firstOf_1) (fun _ h9 => h9) rfl dX4_firstOf_1 ?_
  refine lv_iload_n hx hb dX4_firstOf_4 rfl (lv_at hl 1 rfl) ?_
  obtain ⟨g1, hd⟩ := gd_some hd
  have hPc : va_P (dC, dI) vwCl [(h5, .inl (cI, 17, .inl v_firsts))] _ := hP.sub [1] rfl
  have hDc := hD.sub (ws' := [(h5, .inl (cI, 17, .inl v_firsts))]) [1] (by decide) rfl
  have hFc := va_free (wc := [(h5, .inl (cI, 17, .inl v_firsts))]) hD hS hA [1] rfl
  refine va_calli (va_runSN (As := [.ref h5, .int p1]) (rest := []) ⟨hx, hb, hml, hown, hts⟩ (c_X6_valueAt l dC dI cI cC cT cL h5 17 H.size v_firsts p1 (v_firsts p1.toNatClampNeg) (i_X6_valueAt (Nat.le_of_ble_eq_true rfl) g1 rfl)) ⟨(va_cnB 2 hts gX4_firstOf_X6_valueAt_n59 rfl rfl rfl (nxw_24 hN) (hts _ kX4_firstOf_3) hp_X6_valueAt ⟨Nat.le_of_ble_eq_true rfl, Nat.le_of_ble_eq_true rfl⟩), (hts _ kX4_firstOf_2), trivial⟩ ⟨preB_fb, fun U hU hW => preB_mk hU hW hPc hK hDc hN⟩ rfl rfl hl.1 rfl (lv_room (Nat.le_of_ble_eq_true rfl)) dX4_firstOf_5 ⟨Nat.zero_le _, Nat.zero_le _⟩) hS (fun q _ h => hFc q h) hFc (fun r_ u_ t H locs ht hvm hw hB hz1 hk1 hS => ?_)
  have hw : r_ = (v_firsts p1.toNatClampNeg) := hw
  have hw := hw.symm
  subst hw
  obtain ⟨hP, hD⟩ := x_join (ws' := [(h0, .inr (4, [.ref h1, .int v_blocks, .ref h2, .ref h3, .ref h4, .ref h5, .ref h6, .ref h7, .ref h8])), (h5, .inl (cI, 17, .inl v_firsts))]) hP hD [1] [0] rfl rfl (by decide) (by decide) hk1 hFc ht hB [0, 1] (by decide) rfl
  clear hPc hDc hFc hk1 hB ht hz1 hvm
  cases hd
  exact hend (by rfl) hP hD hS dX4_firstOf_8
def rmX4_tellingCells : Room := { frames := 1, cells := 0, slots := 0, locals := 21 }
theorem kX4_tellingCells_1 : (Cond.fieldLink RX4 21 "CassetteTones$Tape" "manys" "[I") ∈ wsX4_tellingCells := List.mem_of_getElem? (i := 1) (by decide +kernel)
theorem kX4_tellingCells_3 : (Cond.initialized RX6) ∈ wsX4_tellingCells := List.mem_of_getElem? (i := 3) (by decide +kernel)
theorem kX4_tellingCells_2 : (Cond.static yX6_valueAt) ∈ wsX4_tellingCells := List.mem_of_getElem? (i := 2) (by decide +kernel)
theorem inX4_tellingCells_X4 : ∀ w ∈ wsX40, w ∈ wsX4_tellingCells := by decide +kernel
theorem hp_X4_tellingCells : yX4_tellingCells.cls ≠ "java/lang/invoke/MethodHandle" ∧ yX4_tellingCells.cls ≠ "java/lang/invoke/VarHandle" ∧ (parseMethodDescriptor yX4_tellingCells.desc).map (fun d => d.parameters.length) = some 1 := by decide +kernel
theorem hv_X4_tellingCells : yX4_tellingCells.cls = RX4 ∧ yX4_tellingCells.cls ≠ "java/lang/invoke/MethodHandle" ∧ yX4_tellingCells.cls ≠ "java/lang/invoke/VarHandle" ∧ (parseMethodDescriptor yX4_tellingCells.desc).map (fun d => d.parameters.length) = some 1 := by decide +kernel
set_option maxHeartbeats 4000000 in
set_option maxRecDepth 100000 in
theorem c_X4_tellingCells (l : Launch) (dC : Nat → ClassId) (dI : Nat → Nat → Nat) (cI cC cT cL : ClassId) (h0 h1 h2 h3 h4 h5 h6 h7 h8 : Nat) (sz : Nat) (v_blocks : Int32) (v_manys : (Nat → Int32)) (p1 : Int32) (r : Int32) (hd : den_X4_tellingCells v_manys p1 = some r) : Met l yX4_tellingCells wsX4_tellingCells rmX4_tellingCells (va_Pc [.ref h0, .int p1] (preB sz (dC, dI) [(h0, .inr (4, [.ref h1, .int v_blocks, .ref h2, .ref h3, .ref h4, .ref h5, .ref h6, .ref h7, .ref h8])), (h4, .inl (cI, 16, .inl v_manys))] [(cI, .int), (cC, .char), (cT, .object "CassetteTones$Tape"), (cL, .long)])) (va_Qi (S := Unit) (fun v _ => v = r) (fun _ t => posB (dC, dI) [(h0, .inr (4, [.ref h1, .int v_blocks, .ref h2, .ref h3, .ref h4, .ref h5, .ref h6, .ref h7, .ref h8])), (h4, .inl (cI, 16, .inl v_manys))] [(cI, .int), (cC, .char), (cT, .object "CassetteTones$Tape"), (cL, .long)] (va_A [(h0, .inr (4, [.ref h1, .int v_blocks, .ref h2, .ref h3, .ref h4, .ref h5, .ref h6, .ref h7, .ref h8])), (h4, .inl (cI, 16, .inl v_manys))] sz) t) (va_A [(h0, .inr (4, [.ref h1, .int v_blocks, .ref h2, .ref h3, .ref h4, .ref h5, .ref h6, .ref h7, .ref h8])), (h4, .inl (cI, 16, .inl v_manys))] sz)) 0 0 (va_A [(h0, .inr (4, [.ref h1, .int v_blocks, .ref h2, .ref h3, .ref h4, .ref h5, .ref h6, .ref h7, .ref h8])), (h4, .inl (cI, 16, .inl v_manys))] sz) := by
  refine x_met_i (by decide) rfl (Nat.le_of_ble_eq_true rfl) ?_
  intro p e s m args below meth c A Q H locs ls hx hb hml hown hts hK hN hA hP hD hS hl hend
  have hown : s.vm.findClass RX4 = some m.cls := hown
  have hl : lv_has ls 2 [(0, .ref h0), (1, .int p1)] := hl
  unfold den_X4_tellingCells at hd
  refine lv_iconst (v := 4) hx hb dX4_tellingCells_0 (by decide) ?_
  refine lv_aload_n hx hb dX4_tellingCells_1 rfl (lv_at hl 0 rfl) ?_
  refine va_get (D := (dC, dI)) (ci := 4) (v := .ref h4) (C := RX4) (T := TX4) (N := 9) hx hb hts inX4_tellingCells_X4 hown hK hP 0 rfl rfl 4 (by decide) (hts _ kX4_tellingCells_1) (fun _ h9 => h9) rfl dX4_tellingCells_2 ?_
  refine lv_iload_n hx hb dX4_tellingCells_5 rfl (lv_at hl 1 rfl) ?_
  obtain ⟨g1, hd⟩ := gd_some hd
  have hPc : va_P (dC, dI) vwCl [(h4, .inl (cI, 16, .inl v_manys))] _ := hP.sub [1] rfl
  have hDc := hD.sub (ws' := [(h4, .inl (cI, 16, .inl v_manys))]) [1] (by decide) rfl
  have hFc := va_free (wc := [(h4, .inl (cI, 16, .inl v_manys))]) hD hS hA [1] rfl
  refine va_calli (va_runSN (As := [.ref h4, .int p1]) (rest := [.int (4 : Int32)]) ⟨hx, hb, hml, hown, hts⟩ (c_X6_valueAt l dC dI cI cC cT cL h4 16 H.size v_manys p1 (v_manys p1.toNatClampNeg) (i_X6_valueAt (Nat.le_of_ble_eq_true rfl) g1 rfl)) ⟨(va_cnB 2 hts gX4_tellingCells_X6_valueAt_n59 rfl rfl rfl (nxw_24 hN) (hts _ kX4_tellingCells_3) hp_X6_valueAt ⟨Nat.le_of_ble_eq_true rfl, Nat.le_of_ble_eq_true rfl⟩), (hts _ kX4_tellingCells_2), trivial⟩ ⟨preB_fb, fun U hU hW => preB_mk hU hW hPc hK hDc hN⟩ rfl rfl hl.1 rfl (lv_room (Nat.le_of_ble_eq_true rfl)) dX4_tellingCells_6 ⟨Nat.zero_le _, Nat.zero_le _⟩) hS (fun q _ h => hFc q h) hFc (fun r_ u_ t H locs ht hvm hw hB hz1 hk1 hS => ?_)
  have hw : r_ = (v_manys p1.toNatClampNeg) := hw
  have hw := hw.symm
  subst hw
  obtain ⟨hP, hD⟩ := x_join (ws' := [(h0, .inr (4, [.ref h1, .int v_blocks, .ref h2, .ref h3, .ref h4, .ref h5, .ref h6, .ref h7, .ref h8])), (h4, .inl (cI, 16, .inl v_manys))]) hP hD [1] [0] rfl rfl (by decide) (by decide) hk1 hFc ht hB [0, 1] (by decide) rfl
  clear hPc hDc hFc hk1 hB ht hz1 hvm
  refine lv_iconst (v := 1) hx hb dX4_tellingCells_9 (by decide) ?_
  refine lv_iadd hx hb dX4_tellingCells_10 ?_
  refine lv_bipush (v := 9) hx hb dX4_tellingCells_11 (by decide) ?_
  refine lv_imul hx hb dX4_tellingCells_13 ?_
  refine lv_iadd hx hb dX4_tellingCells_14 ?_
  cases hd
  exact hend (by rfl) hP hD hS dX4_tellingCells_15
def rmX4_toldAt : Room := { frames := 1, cells := 0, slots := 0, locals := 21 }
theorem kX4_toldAt_1 : (Cond.fieldLink RX4 33 "CassetteTones$Tape" "written" "[I") ∈ wsX4_toldAt := List.mem_of_getElem? (i := 1) (by decide +kernel)
theorem kX4_toldAt_4 : (Cond.initialized RX6) ∈ wsX4_toldAt := List.mem_of_getElem? (i := 4) (by decide +kernel)
theorem kX4_toldAt_3 : (Cond.static yX6_valueAt) ∈ wsX4_toldAt := List.mem_of_getElem? (i := 3) (by decide +kernel)
theorem kX4_toldAt_2 : (Cond.fieldLink RX4 30 "CassetteTones$Tape" "bad" "[I") ∈ wsX4_toldAt := List.mem_of_getElem? (i := 2) (by decide +kernel)
theorem inX4_toldAt_X4 : ∀ w ∈ wsX40, w ∈ wsX4_toldAt := by decide +kernel
theorem hp_X4_toldAt : yX4_toldAt.cls ≠ "java/lang/invoke/MethodHandle" ∧ yX4_toldAt.cls ≠ "java/lang/invoke/VarHandle" ∧ (parseMethodDescriptor yX4_toldAt.desc).map (fun d => d.parameters.length) = some 1 := by decide +kernel
theorem hv_X4_toldAt : yX4_toldAt.cls = RX4 ∧ yX4_toldAt.cls ≠ "java/lang/invoke/MethodHandle" ∧ yX4_toldAt.cls ≠ "java/lang/invoke/VarHandle" ∧ (parseMethodDescriptor yX4_toldAt.desc).map (fun d => d.parameters.length) = some 1 := by decide +kernel
set_option maxHeartbeats 4000000 in
set_option maxRecDepth 100000 in
theorem c_X4_toldAt (l : Launch) (dC : Nat → ClassId) (dI : Nat → Nat → Nat) (cI cC cT cL : ClassId) (h0 h1 h2 h3 h4 h5 h6 h7 h8 : Nat) (sz : Nat) (v_blocks : Int32) (v_bad : (Nat → Int32)) (v_written : (Nat → Int32)) (p1 : Int32) (r : Int32) (hd : den_X4_toldAt v_bad v_written p1 = some r) : Met l yX4_toldAt wsX4_toldAt rmX4_toldAt (va_Pc [.ref h0, .int p1] (preB sz (dC, dI) [(h0, .inr (4, [.ref h1, .int v_blocks, .ref h2, .ref h3, .ref h4, .ref h5, .ref h6, .ref h7, .ref h8])), (h7, .inl (cI, 2464, .inl v_bad)), (h8, .inl (cI, 2464, .inl v_written))] [(cI, .int), (cC, .char), (cT, .object "CassetteTones$Tape"), (cL, .long)])) (va_Qi (S := Unit) (fun v _ => v = r) (fun _ t => posB (dC, dI) [(h0, .inr (4, [.ref h1, .int v_blocks, .ref h2, .ref h3, .ref h4, .ref h5, .ref h6, .ref h7, .ref h8])), (h7, .inl (cI, 2464, .inl v_bad)), (h8, .inl (cI, 2464, .inl v_written))] [(cI, .int), (cC, .char), (cT, .object "CassetteTones$Tape"), (cL, .long)] (va_A [(h0, .inr (4, [.ref h1, .int v_blocks, .ref h2, .ref h3, .ref h4, .ref h5, .ref h6, .ref h7, .ref h8])), (h7, .inl (cI, 2464, .inl v_bad)), (h8, .inl (cI, 2464, .inl v_written))] sz) t) (va_A [(h0, .inr (4, [.ref h1, .int v_blocks, .ref h2, .ref h3, .ref h4, .ref h5, .ref h6, .ref h7, .ref h8])), (h7, .inl (cI, 2464, .inl v_bad)), (h8, .inl (cI, 2464, .inl v_written))] sz)) 0 0 (va_A [(h0, .inr (4, [.ref h1, .int v_blocks, .ref h2, .ref h3, .ref h4, .ref h5, .ref h6, .ref h7, .ref h8])), (h7, .inl (cI, 2464, .inl v_bad)), (h8, .inl (cI, 2464, .inl v_written))] sz) := by
  refine x_met_i (by decide) rfl (Nat.le_of_ble_eq_true rfl) ?_
  intro p e s m args below meth c A Q H locs ls hx hb hml hown hts hK hN hA hP hD hS hl hend
  have hown : s.vm.findClass RX4 = some m.cls := hown
  have hl : lv_has ls 2 [(0, .ref h0), (1, .int p1)] := hl
  unfold den_X4_toldAt at hd
  refine lv_aload_n hx hb dX4_toldAt_0 rfl (lv_at hl 0 rfl) ?_
  refine va_get (D := (dC, dI)) (ci := 4) (v := .ref h8) (C := RX4) (T := TX4) (N := 9) hx hb hts inX4_toldAt_X4 hown hK hP 0 rfl rfl 8 (by decide) (hts _ kX4_toldAt_1) (fun _ h9 => h9) rfl dX4_toldAt_1 ?_
  refine lv_iload_n hx hb dX4_toldAt_4 rfl (lv_at hl 1 rfl) ?_
  obtain ⟨g1, hd⟩ := gd_some hd
  have hPc : va_P (dC, dI) vwCl [(h8, .inl (cI, 2464, .inl v_written))] _ := hP.sub [2] rfl
  have hDc := hD.sub (ws' := [(h8, .inl (cI, 2464, .inl v_written))]) [2] (by decide) rfl
  have hFc := va_free (wc := [(h8, .inl (cI, 2464, .inl v_written))]) hD hS hA [2] rfl
  refine va_calli (va_runSN (As := [.ref h8, .int p1]) (rest := []) ⟨hx, hb, hml, hown, hts⟩ (c_X6_valueAt l dC dI cI cC cT cL h8 2464 H.size v_written p1 (v_written p1.toNatClampNeg) (i_X6_valueAt (Nat.le_of_ble_eq_true rfl) g1 rfl)) ⟨(va_cnB 2 hts gX4_toldAt_X6_valueAt_n59 rfl rfl rfl (nxw_24 hN) (hts _ kX4_toldAt_4) hp_X6_valueAt ⟨Nat.le_of_ble_eq_true rfl, Nat.le_of_ble_eq_true rfl⟩), (hts _ kX4_toldAt_3), trivial⟩ ⟨preB_fb, fun U hU hW => preB_mk hU hW hPc hK hDc hN⟩ rfl rfl hl.1 rfl (lv_room (Nat.le_of_ble_eq_true rfl)) dX4_toldAt_5 ⟨Nat.zero_le _, Nat.zero_le _⟩) hS (fun q _ h => hFc q h) hFc (fun r_ u_ t H locs ht hvm hw hB hz1 hk1 hS => ?_)
  have hw : r_ = (v_written p1.toNatClampNeg) := hw
  have hw := hw.symm
  subst hw
  obtain ⟨hP, hD⟩ := x_join (ws' := [(h0, .inr (4, [.ref h1, .int v_blocks, .ref h2, .ref h3, .ref h4, .ref h5, .ref h6, .ref h7, .ref h8])), (h7, .inl (cI, 2464, .inl v_bad)), (h8, .inl (cI, 2464, .inl v_written))]) hP hD [2] [0, 1] rfl rfl (by decide) (by decide) hk1 hFc ht hB [0, 1, 2] (by decide) rfl
  clear hPc hDc hFc hk1 hB ht hz1 hvm
  refine lv_aload_n hx hb dX4_toldAt_8 rfl (lv_at hl 0 rfl) ?_
  refine va_get (D := (dC, dI)) (ci := 4) (v := .ref h7) (C := RX4) (T := TX4) (N := 9) hx hb hts inX4_toldAt_X4 hown hK hP 0 rfl rfl 7 (by decide) (hts _ kX4_toldAt_2) (fun _ h9 => h9) rfl dX4_toldAt_9 ?_
  refine lv_iload_n hx hb dX4_toldAt_12 rfl (lv_at hl 1 rfl) ?_
  obtain ⟨g2, hd⟩ := gd_some hd
  have hPc : va_P (dC, dI) vwCl [(h7, .inl (cI, 2464, .inl v_bad))] _ := hP.sub [1] rfl
  have hDc := hD.sub (ws' := [(h7, .inl (cI, 2464, .inl v_bad))]) [1] (by decide) rfl
  have hFc := va_free (wc := [(h7, .inl (cI, 2464, .inl v_bad))]) hD hS hA [1] rfl
  refine va_calli (va_runSN (As := [.ref h7, .int p1]) (rest := [.int (v_written p1.toNatClampNeg)]) ⟨hx, hb, hml, hown, hts⟩ (c_X6_valueAt l dC dI cI cC cT cL h7 2464 H.size v_bad p1 (v_bad p1.toNatClampNeg) (i_X6_valueAt (Nat.le_of_ble_eq_true rfl) g2 rfl)) ⟨(va_cnB 2 hts gX4_toldAt_X6_valueAt_n59 rfl rfl rfl (nxw_24 hN) (hts _ kX4_toldAt_4) hp_X6_valueAt ⟨Nat.le_of_ble_eq_true rfl, Nat.le_of_ble_eq_true rfl⟩), (hts _ kX4_toldAt_3), trivial⟩ ⟨preB_fb, fun U hU hW => preB_mk hU hW hPc hK hDc hN⟩ rfl rfl hl.1 rfl (lv_room (Nat.le_of_ble_eq_true rfl)) dX4_toldAt_13 ⟨Nat.zero_le _, Nat.zero_le _⟩) hS (fun q _ h => hFc q h) hFc (fun r_ u_ t H locs ht hvm hw hB hz1 hk1 hS => ?_)
  have hw : r_ = (v_bad p1.toNatClampNeg) := hw
  have hw := hw.symm
  subst hw
  obtain ⟨hP, hD⟩ := x_join (ws' := [(h0, .inr (4, [.ref h1, .int v_blocks, .ref h2, .ref h3, .ref h4, .ref h5, .ref h6, .ref h7, .ref h8])), (h7, .inl (cI, 2464, .inl v_bad)), (h8, .inl (cI, 2464, .inl v_written))]) hP hD [1] [0, 2] rfl rfl (by decide) (by decide) hk1 hFc ht hB [0, 2, 1] (by decide) rfl
  clear hPc hDc hFc hk1 hB ht hz1 hvm
  refine lv_ixor hx hb dX4_toldAt_16 ?_
  cases hd
  exact hend (by rfl) hP hD hS dX4_toldAt_17
def rmX4_cells : Room := { frames := 1, cells := 0, slots := 0, locals := 21 }
theorem kX4_cells_1 : (Cond.fieldLink RX4 24 "CassetteTones$Tape" "firsts" "[I") ∈ wsX4_cells := List.mem_of_getElem? (i := 1) (by decide +kernel)
theorem kX4_cells_2 : (Cond.fieldLink RX4 36 "CassetteTones$Tape" "blocks" "I") ∈ wsX4_cells := List.mem_of_getElem? (i := 2) (by decide +kernel)
theorem kX4_cells_4 : (Cond.initialized RX6) ∈ wsX4_cells := List.mem_of_getElem? (i := 4) (by decide +kernel)
theorem kX4_cells_3 : (Cond.static yX6_valueAt) ∈ wsX4_cells := List.mem_of_getElem? (i := 3) (by decide +kernel)
theorem inX4_cells_X4 : ∀ w ∈ wsX40, w ∈ wsX4_cells := by decide +kernel
theorem hp_X4_cells : yX4_cells.cls ≠ "java/lang/invoke/MethodHandle" ∧ yX4_cells.cls ≠ "java/lang/invoke/VarHandle" ∧ (parseMethodDescriptor yX4_cells.desc).map (fun d => d.parameters.length) = some 0 := by decide +kernel
theorem hv_X4_cells : yX4_cells.cls = RX4 ∧ yX4_cells.cls ≠ "java/lang/invoke/MethodHandle" ∧ yX4_cells.cls ≠ "java/lang/invoke/VarHandle" ∧ (parseMethodDescriptor yX4_cells.desc).map (fun d => d.parameters.length) = some 0 := by decide +kernel
set_option maxHeartbeats 4000000 in
set_option maxRecDepth 100000 in
theorem c_X4_cells (l : Launch) (dC : Nat → ClassId) (dI : Nat → Nat → Nat) (cI cC cT cL : ClassId) (h0 h1 h2 h3 h4 h5 h6 h7 h8 : Nat) (sz : Nat) (v_blocks : Int32) (v_firsts : (Nat → Int32)) (r : Int32) (hd : den_X4_cells v_blocks v_firsts = some r) : Met l yX4_cells wsX4_cells rmX4_cells (va_Pc [.ref h0] (preB sz (dC, dI) [(h0, .inr (4, [.ref h1, .int v_blocks, .ref h2, .ref h3, .ref h4, .ref h5, .ref h6, .ref h7, .ref h8])), (h5, .inl (cI, 17, .inl v_firsts))] [(cI, .int), (cC, .char), (cT, .object "CassetteTones$Tape"), (cL, .long)])) (va_Qi (S := Unit) (fun v _ => v = r) (fun _ t => posB (dC, dI) [(h0, .inr (4, [.ref h1, .int v_blocks, .ref h2, .ref h3, .ref h4, .ref h5, .ref h6, .ref h7, .ref h8])), (h5, .inl (cI, 17, .inl v_firsts))] [(cI, .int), (cC, .char), (cT, .object "CassetteTones$Tape"), (cL, .long)] (va_A [(h0, .inr (4, [.ref h1, .int v_blocks, .ref h2, .ref h3, .ref h4, .ref h5, .ref h6, .ref h7, .ref h8])), (h5, .inl (cI, 17, .inl v_firsts))] sz) t) (va_A [(h0, .inr (4, [.ref h1, .int v_blocks, .ref h2, .ref h3, .ref h4, .ref h5, .ref h6, .ref h7, .ref h8])), (h5, .inl (cI, 17, .inl v_firsts))] sz)) 0 0 (va_A [(h0, .inr (4, [.ref h1, .int v_blocks, .ref h2, .ref h3, .ref h4, .ref h5, .ref h6, .ref h7, .ref h8])), (h5, .inl (cI, 17, .inl v_firsts))] sz) := by
  refine x_met_i (by decide) rfl (Nat.le_of_ble_eq_true rfl) ?_
  intro p e s m args below meth c A Q H locs ls hx hb hml hown hts hK hN hA hP hD hS hl hend
  have hown : s.vm.findClass RX4 = some m.cls := hown
  have hl : lv_has ls 1 [(0, .ref h0)] := hl
  unfold den_X4_cells at hd
  refine lv_aload_n hx hb dX4_cells_0 rfl (lv_at hl 0 rfl) ?_
  refine va_get (D := (dC, dI)) (ci := 4) (v := .ref h5) (C := RX4) (T := TX4) (N := 9) hx hb hts inX4_cells_X4 hown hK hP 0 rfl rfl 5 (by decide) (hts _ kX4_cells_1) (fun _ h9 => h9) rfl dX4_cells_1 ?_
  refine lv_aload_n hx hb dX4_cells_4 rfl (lv_at hl 0 rfl) ?_
  refine va_get (D := (dC, dI)) (ci := 4) (v := .int v_blocks) (C := RX4) (T := TX4) (N := 9) hx hb hts inX4_cells_X4 hown hK hP 0 rfl rfl 1 (by decide) (hts _ kX4_cells_2) (fun _ h9 => h9) rfl dX4_cells_5 ?_
  obtain ⟨g1, hd⟩ := gd_some hd
  have hPc : va_P (dC, dI) vwCl [(h5, .inl (cI, 17, .inl v_firsts))] _ := hP.sub [1] rfl
  have hDc := hD.sub (ws' := [(h5, .inl (cI, 17, .inl v_firsts))]) [1] (by decide) rfl
  have hFc := va_free (wc := [(h5, .inl (cI, 17, .inl v_firsts))]) hD hS hA [1] rfl
  refine va_calli (va_runSN (As := [.ref h5, .int v_blocks]) (rest := []) ⟨hx, hb, hml, hown, hts⟩ (c_X6_valueAt l dC dI cI cC cT cL h5 17 H.size v_firsts v_blocks (v_firsts v_blocks.toNatClampNeg) (i_X6_valueAt (Nat.le_of_ble_eq_true rfl) g1 rfl)) ⟨(va_cnB 2 hts gX4_cells_X6_valueAt_n59 rfl rfl rfl (nxw_24 hN) (hts _ kX4_cells_4) hp_X6_valueAt ⟨Nat.le_of_ble_eq_true rfl, Nat.le_of_ble_eq_true rfl⟩), (hts _ kX4_cells_3), trivial⟩ ⟨preB_fb, fun U hU hW => preB_mk hU hW hPc hK hDc hN⟩ rfl rfl hl.1 rfl (lv_room (Nat.le_of_ble_eq_true rfl)) dX4_cells_8 ⟨Nat.zero_le _, Nat.zero_le _⟩) hS (fun q _ h => hFc q h) hFc (fun r_ u_ t H locs ht hvm hw hB hz1 hk1 hS => ?_)
  have hw : r_ = (v_firsts v_blocks.toNatClampNeg) := hw
  have hw := hw.symm
  subst hw
  obtain ⟨hP, hD⟩ := x_join (ws' := [(h0, .inr (4, [.ref h1, .int v_blocks, .ref h2, .ref h3, .ref h4, .ref h5, .ref h6, .ref h7, .ref h8])), (h5, .inl (cI, 17, .inl v_firsts))]) hP hD [1] [0] rfl rfl (by decide) (by decide) hk1 hFc ht hB [0, 1] (by decide) rfl
  clear hPc hDc hFc hk1 hB ht hz1 hvm
  cases hd
  exact hend (by rfl) hP hD hS dX4_cells_11
def rmX4_copyFrom : Room := { frames := 2, cells := 0, slots := 0, locals := 41 }
theorem kX4_copyFrom_1 : (Cond.fieldLink RX4 36 "CassetteTones$Tape" "blocks" "I") ∈ wsX4_copyFrom := List.mem_of_getElem? (i := 1) (by decide +kernel)
theorem kX4_copyFrom_2 : (Cond.fieldLink RX4 9 "CassetteTones$Tape" "settings" "[I") ∈ wsX4_copyFrom := List.mem_of_getElem? (i := 2) (by decide +kernel)
theorem kX4_copyFrom_3 : (Cond.methodLink RX4 40 arraycopyName) ∈ wsX4_copyFrom := List.mem_of_getElem? (i := 3) (by decide +kernel)
theorem kX4_copyFrom_4 : (Cond.native arraycopyName) ∈ wsX4_copyFrom := List.mem_of_getElem? (i := 4) (by decide +kernel)
theorem kX4_copyFrom_5 : (Cond.static arraycopyName) ∈ wsX4_copyFrom := List.mem_of_getElem? (i := 5) (by decide +kernel)
theorem kX4_copyFrom_6 : (Cond.initialized "java/lang/System") ∈ wsX4_copyFrom := List.mem_of_getElem? (i := 6) (by decide +kernel)
theorem kX4_copyFrom_7 : (Cond.fieldLink RX4 15 "CassetteTones$Tape" "names" "[I") ∈ wsX4_copyFrom := List.mem_of_getElem? (i := 7) (by decide +kernel)
theorem kX4_copyFrom_8 : (Cond.fieldLink RX4 18 "CassetteTones$Tape" "unders" "[I") ∈ wsX4_copyFrom := List.mem_of_getElem? (i := 8) (by decide +kernel)
theorem kX4_copyFrom_9 : (Cond.fieldLink RX4 21 "CassetteTones$Tape" "manys" "[I") ∈ wsX4_copyFrom := List.mem_of_getElem? (i := 9) (by decide +kernel)
theorem kX4_copyFrom_10 : (Cond.fieldLink RX4 24 "CassetteTones$Tape" "firsts" "[I") ∈ wsX4_copyFrom := List.mem_of_getElem? (i := 10) (by decide +kernel)
theorem kX4_copyFrom_11 : (Cond.methodLink RX4 50 Lib.Math.min.name) ∈ wsX4_copyFrom := List.mem_of_getElem? (i := 11) (by decide +kernel)
theorem kX4_copyFrom_12 : (Cond.static Lib.Math.min.name) ∈ wsX4_copyFrom := List.mem_of_getElem? (i := 12) (by decide +kernel)
theorem kX4_copyFrom_13 : (Cond.initialized "java/lang/Math") ∈ wsX4_copyFrom := List.mem_of_getElem? (i := 13) (by decide +kernel)
theorem kX4_copyFrom_14 : (Cond.code Lib.Math.min.name Lib.Math.min.code 2 (some .int)) ∈ wsX4_copyFrom := List.mem_of_getElem? (i := 14) (by decide +kernel)
theorem kX4_copyFrom_15 : (Cond.methodLink RX4 56 Lib.Math.max.name) ∈ wsX4_copyFrom := List.mem_of_getElem? (i := 15) (by decide +kernel)
theorem kX4_copyFrom_16 : (Cond.static Lib.Math.max.name) ∈ wsX4_copyFrom := List.mem_of_getElem? (i := 16) (by decide +kernel)
theorem kX4_copyFrom_17 : (Cond.code Lib.Math.max.name Lib.Math.max.code 2 (some .int)) ∈ wsX4_copyFrom := List.mem_of_getElem? (i := 17) (by decide +kernel)
theorem kX4_copyFrom_18 : (Cond.fieldLink RX4 27 "CassetteTones$Tape" "volumes" "[I") ∈ wsX4_copyFrom := List.mem_of_getElem? (i := 18) (by decide +kernel)
theorem kX4_copyFrom_19 : (Cond.fieldLink RX4 30 "CassetteTones$Tape" "bad" "[I") ∈ wsX4_copyFrom := List.mem_of_getElem? (i := 19) (by decide +kernel)
theorem kX4_copyFrom_20 : (Cond.fieldLink RX4 33 "CassetteTones$Tape" "written" "[I") ∈ wsX4_copyFrom := List.mem_of_getElem? (i := 20) (by decide +kernel)
theorem inX4_copyFrom_X4 : ∀ w ∈ wsX40, w ∈ wsX4_copyFrom := by decide +kernel
theorem hp_X4_copyFrom : yX4_copyFrom.cls ≠ "java/lang/invoke/MethodHandle" ∧ yX4_copyFrom.cls ≠ "java/lang/invoke/VarHandle" ∧ (parseMethodDescriptor yX4_copyFrom.desc).map (fun d => d.parameters.length) = some 1 := by decide +kernel
theorem hv_X4_copyFrom : yX4_copyFrom.cls = RX4 ∧ yX4_copyFrom.cls ≠ "java/lang/invoke/MethodHandle" ∧ yX4_copyFrom.cls ≠ "java/lang/invoke/VarHandle" ∧ (parseMethodDescriptor yX4_copyFrom.desc).map (fun d => d.parameters.length) = some 1 := by decide +kernel
set_option maxHeartbeats 4000000 in
set_option maxRecDepth 100000 in
theorem c_X4_copyFrom (l : Launch) (dC : Nat → ClassId) (dI : Nat → Nat → Nat) (cI cC cT cL : ClassId) (h0 h1 h2 h3 h4 h5 h6 h7 h8 h9 h10 h11 h12 h13 h14 h15 h16 h17 : Nat) (sz : Nat) (v_settings : (Nat → Int32)) (v_blocks : Int32) (v_names : (Nat → Int32)) (v_unders : (Nat → Int32)) (v_manys : (Nat → Int32)) (v_firsts : (Nat → Int32)) (v_volumes : (Nat → Int32)) (v_bad : (Nat → Int32)) (v_written : (Nat → Int32)) (p1_settings : (Nat → Int32)) (p1_blocks : Int32) (p1_names : (Nat → Int32)) (p1_unders : (Nat → Int32)) (p1_manys : (Nat → Int32)) (p1_firsts : (Nat → Int32)) (p1_volumes : (Nat → Int32)) (p1_bad : (Nat → Int32)) (p1_written : (Nat → Int32)) (r : ((Nat → Int32) × Int32 × (Nat → Int32) × (Nat → Int32) × (Nat → Int32) × (Nat → Int32) × (Nat → Int32) × (Nat → Int32) × (Nat → Int32))) (hd : den_X4_copyFrom v_settings v_blocks v_names v_unders v_manys v_firsts v_volumes v_bad v_written p1_settings p1_blocks p1_names p1_unders p1_manys p1_firsts p1_volumes p1_bad p1_written = some r) : Met l yX4_copyFrom wsX4_copyFrom rmX4_copyFrom (va_Pc [.ref h0, .ref h9] (preB sz (dC, dI) [(h0, .inr (4, [.ref h1, .int v_blocks, .ref h2, .ref h3, .ref h4, .ref h5, .ref h6, .ref h7, .ref h8])), (h1, .inl (cI, 3, .inl v_settings)), (h2, .inl (cI, 16, .inl v_names)), (h3, .inl (cI, 16, .inl v_unders)), (h4, .inl (cI, 16, .inl v_manys)), (h5, .inl (cI, 17, .inl v_firsts)), (h6, .inl (cI, 2464, .inl v_volumes)), (h7, .inl (cI, 2464, .inl v_bad)), (h8, .inl (cI, 2464, .inl v_written)), (h9, .inr (4, [.ref h10, .int p1_blocks, .ref h11, .ref h12, .ref h13, .ref h14, .ref h15, .ref h16, .ref h17])), (h10, .inl (cI, 3, .inl p1_settings)), (h11, .inl (cI, 16, .inl p1_names)), (h12, .inl (cI, 16, .inl p1_unders)), (h13, .inl (cI, 16, .inl p1_manys)), (h14, .inl (cI, 17, .inl p1_firsts)), (h15, .inl (cI, 2464, .inl p1_volumes)), (h16, .inl (cI, 2464, .inl p1_bad)), (h17, .inl (cI, 2464, .inl p1_written))] [(cI, .int), (cC, .char), (cT, .object "CassetteTones$Tape"), (cL, .long)])) (va_Qv (S := Unit) (fun _ => True) (fun _ t => posB (dC, dI) [(h0, .inr (4, [.ref h1, .int r.2.1, .ref h2, .ref h3, .ref h4, .ref h5, .ref h6, .ref h7, .ref h8])), (h1, .inl (cI, 3, .inl r.1)), (h2, .inl (cI, 16, .inl r.2.2.1)), (h3, .inl (cI, 16, .inl r.2.2.2.1)), (h4, .inl (cI, 16, .inl r.2.2.2.2.1)), (h5, .inl (cI, 17, .inl r.2.2.2.2.2.1)), (h6, .inl (cI, 2464, .inl r.2.2.2.2.2.2.1)), (h7, .inl (cI, 2464, .inl r.2.2.2.2.2.2.2.1)), (h8, .inl (cI, 2464, .inl r.2.2.2.2.2.2.2.2)), (h9, .inr (4, [.ref h10, .int p1_blocks, .ref h11, .ref h12, .ref h13, .ref h14, .ref h15, .ref h16, .ref h17])), (h10, .inl (cI, 3, .inl p1_settings)), (h11, .inl (cI, 16, .inl p1_names)), (h12, .inl (cI, 16, .inl p1_unders)), (h13, .inl (cI, 16, .inl p1_manys)), (h14, .inl (cI, 17, .inl p1_firsts)), (h15, .inl (cI, 2464, .inl p1_volumes)), (h16, .inl (cI, 2464, .inl p1_bad)), (h17, .inl (cI, 2464, .inl p1_written))] [(cI, .int), (cC, .char), (cT, .object "CassetteTones$Tape"), (cL, .long)] (va_A [(h0, .inr (4, [.ref h1, .int v_blocks, .ref h2, .ref h3, .ref h4, .ref h5, .ref h6, .ref h7, .ref h8])), (h1, .inl (cI, 3, .inl v_settings)), (h2, .inl (cI, 16, .inl v_names)), (h3, .inl (cI, 16, .inl v_unders)), (h4, .inl (cI, 16, .inl v_manys)), (h5, .inl (cI, 17, .inl v_firsts)), (h6, .inl (cI, 2464, .inl v_volumes)), (h7, .inl (cI, 2464, .inl v_bad)), (h8, .inl (cI, 2464, .inl v_written)), (h9, .inr (4, [.ref h10, .int p1_blocks, .ref h11, .ref h12, .ref h13, .ref h14, .ref h15, .ref h16, .ref h17])), (h10, .inl (cI, 3, .inl p1_settings)), (h11, .inl (cI, 16, .inl p1_names)), (h12, .inl (cI, 16, .inl p1_unders)), (h13, .inl (cI, 16, .inl p1_manys)), (h14, .inl (cI, 17, .inl p1_firsts)), (h15, .inl (cI, 2464, .inl p1_volumes)), (h16, .inl (cI, 2464, .inl p1_bad)), (h17, .inl (cI, 2464, .inl p1_written))] sz) t) (va_A [(h0, .inr (4, [.ref h1, .int v_blocks, .ref h2, .ref h3, .ref h4, .ref h5, .ref h6, .ref h7, .ref h8])), (h1, .inl (cI, 3, .inl v_settings)), (h2, .inl (cI, 16, .inl v_names)), (h3, .inl (cI, 16, .inl v_unders)), (h4, .inl (cI, 16, .inl v_manys)), (h5, .inl (cI, 17, .inl v_firsts)), (h6, .inl (cI, 2464, .inl v_volumes)), (h7, .inl (cI, 2464, .inl v_bad)), (h8, .inl (cI, 2464, .inl v_written)), (h9, .inr (4, [.ref h10, .int p1_blocks, .ref h11, .ref h12, .ref h13, .ref h14, .ref h15, .ref h16, .ref h17])), (h10, .inl (cI, 3, .inl p1_settings)), (h11, .inl (cI, 16, .inl p1_names)), (h12, .inl (cI, 16, .inl p1_unders)), (h13, .inl (cI, 16, .inl p1_manys)), (h14, .inl (cI, 17, .inl p1_firsts)), (h15, .inl (cI, 2464, .inl p1_volumes)), (h16, .inl (cI, 2464, .inl p1_bad)), (h17, .inl (cI, 2464, .inl p1_written))] sz)) 0 0 (va_A [(h0, .inr (4, [.ref h1, .int v_blocks, .ref h2, .ref h3, .ref h4, .ref h5, .ref h6, .ref h7, .ref h8])), (h1, .inl (cI, 3, .inl v_settings)), (h2, .inl (cI, 16, .inl v_names)), (h3, .inl (cI, 16, .inl v_unders)), (h4, .inl (cI, 16, .inl v_manys)), (h5, .inl (cI, 17, .inl v_firsts)), (h6, .inl (cI, 2464, .inl v_volumes)), (h7, .inl (cI, 2464, .inl v_bad)), (h8, .inl (cI, 2464, .inl v_written)), (h9, .inr (4, [.ref h10, .int p1_blocks, .ref h11, .ref h12, .ref h13, .ref h14, .ref h15, .ref h16, .ref h17])), (h10, .inl (cI, 3, .inl p1_settings)), (h11, .inl (cI, 16, .inl p1_names)), (h12, .inl (cI, 16, .inl p1_unders)), (h13, .inl (cI, 16, .inl p1_manys)), (h14, .inl (cI, 17, .inl p1_firsts)), (h15, .inl (cI, 2464, .inl p1_volumes)), (h16, .inl (cI, 2464, .inl p1_bad)), (h17, .inl (cI, 2464, .inl p1_written))] sz) := by
  refine x_met_v (by decide) rfl (Nat.le_of_ble_eq_true rfl) ?_
  intro p e s m args below meth c A Q H locs ls hx hb hml hown hts hK hN hA hP hD hS hl hend
  have hown : s.vm.findClass RX4 = some m.cls := hown
  have hl : lv_has ls 3 [(0, .ref h0), (1, .ref h9)] := hl
  unfold den_X4_copyFrom at hd
  refine lv_aload_n hx hb dX4_copyFrom_0 rfl (lv_at hl 0 rfl) ?_
  refine lv_aload_n hx hb dX4_copyFrom_1 rfl (lv_at hl 1 rfl) ?_
  refine va_get (D := (dC, dI)) (ci := 4) (v := .int p1_blocks) (C := RX4) (T := TX4) (N := 9) hx hb hts inX4_copyFrom_X4 hown hK hP 9 rfl rfl 1 (by decide) (hts _ kX4_copyFrom_1) (fun _ h9 => h9) rfl dX4_copyFrom_2 ?_
  refine va_put (D := (dC, dI)) (ci := 4) (v := .int p1_blocks) (ty := .int) (C := RX4) (T := TX4) (N := 9) hx hb hts inX4_copyFrom_X4 tyX4 tyX4_ok nmX4 hown hK hP hD hS 0 rfl rfl 1 (by decide) (hts _ kX4_copyFrom_1) (fun _ h9 => h9) rfl (by decide +kernel) rfl rfl (Nat.le_of_ble_eq_true rfl) dX4_copyFrom_5 (fun H locs hP hD hS => ?_)
  have hP : va_P (dC, dI) vwCl [(h0, .inr (4, [.ref h1, .int p1_blocks, .ref h2, .ref h3, .ref h4, .ref h5, .ref h6, .ref h7, .ref h8])), (h1, .inl (cI, 3, .inl v_settings)), (h2, .inl (cI, 16, .inl v_names)), (h3, .inl (cI, 16, .inl v_unders)), (h4, .inl (cI, 16, .inl v_manys)), (h5, .inl (cI, 17, .inl v_firsts)), (h6, .inl (cI, 2464, .inl v_volumes)), (h7, .inl (cI, 2464, .inl v_bad)), (h8, .inl (cI, 2464, .inl v_written)), (h9, .inr (4, [.ref h10, .int p1_blocks, .ref h11, .ref h12, .ref h13, .ref h14, .ref h15, .ref h16, .ref h17])), (h10, .inl (cI, 3, .inl p1_settings)), (h11, .inl (cI, 16, .inl p1_names)), (h12, .inl (cI, 16, .inl p1_unders)), (h13, .inl (cI, 16, .inl p1_manys)), (h14, .inl (cI, 17, .inl p1_firsts)), (h15, .inl (cI, 2464, .inl p1_volumes)), (h16, .inl (cI, 2464, .inl p1_bad)), (h17, .inl (cI, 2464, .inl p1_written))] H := hP
  have hD : va_D A [(h0, .inr (4, [.ref h1, .int p1_blocks, .ref h2, .ref h3, .ref h4, .ref h5, .ref h6, .ref h7, .ref h8])), (h1, .inl (cI, 3, .inl v_settings)), (h2, .inl (cI, 16, .inl v_names)), (h3, .inl (cI, 16, .inl v_unders)), (h4, .inl (cI, 16, .inl v_manys)), (h5, .inl (cI, 17, .inl v_firsts)), (h6, .inl (cI, 2464, .inl v_volumes)), (h7, .inl (cI, 2464, .inl v_bad)), (h8, .inl (cI, 2464, .inl v_written)), (h9, .inr (4, [.ref h10, .int p1_blocks, .ref h11, .ref h12, .ref h13, .ref h14, .ref h15, .ref h16, .ref h17])), (h10, .inl (cI, 3, .inl p1_settings)), (h11, .inl (cI, 16, .inl p1_names)), (h12, .inl (cI, 16, .inl p1_unders)), (h13, .inl (cI, 16, .inl p1_manys)), (h14, .inl (cI, 17, .inl p1_firsts)), (h15, .inl (cI, 2464, .inl p1_volumes)), (h16, .inl (cI, 2464, .inl p1_bad)), (h17, .inl (cI, 2464, .inl p1_written))] := hD
  refine lv_aload_n hx hb dX4_copyFrom_8 rfl (lv_at hl 1 rfl) ?_
  refine va_get (D := (dC, dI)) (ci := 4) (v := .ref h10) (C := RX4) (T := TX4) (N := 9) hx hb hts inX4_copyFrom_X4 hown hK hP 9 rfl rfl 0 (by decide) (hts _ kX4_copyFrom_2) (fun _ h9 => h9) rfl dX4_copyFrom_9 ?_
  refine lv_iconst (v := 0) hx hb dX4_copyFrom_12 (by decide) ?_
  refine lv_aload_n hx hb dX4_copyFrom_13 rfl (lv_at hl 0 rfl) ?_
  refine va_get (D := (dC, dI)) (ci := 4) (v := .ref h1) (C := RX4) (T := TX4) (N := 9) hx hb hts inX4_copyFrom_X4 hown hK hP 0 rfl rfl 0 (by decide) (hts _ kX4_copyFrom_2) (fun _ h9 => h9) rfl dX4_copyFrom_14 ?_
  refine lv_iconst (v := 0) hx hb dX4_copyFrom_17 (by decide) ?_
  refine lv_iconst (v := 3) hx hb dX4_copyFrom_18 (by decide) ?_
  refine x_copyi (k := 3) hx hb (hml.trans hl.1.symm) hown (hts _ kX4_copyFrom_3) (hts _ kX4_copyFrom_4) (hts _ kX4_copyFrom_5) (hts _ kX4_copyFrom_6) hK hP hD hS 10 1 0 0 rfl rfl rfl rfl (by decide) (by decide) (by decide) rfl (Nat.le_of_ble_eq_true rfl) (Nat.le_of_ble_eq_true rfl) dX4_copyFrom_19 (fun H locs hP hD hS => ?_)
  have hP : va_P (dC, dI) vwCl [(h0, .inr (4, [.ref h1, .int p1_blocks, .ref h2, .ref h3, .ref h4, .ref h5, .ref h6, .ref h7, .ref h8])), (h1, .inl (cI, 3, .inl (va_cpy p1_settings v_settings 0 0 3))), (h2, .inl (cI, 16, .inl v_names)), (h3, .inl (cI, 16, .inl v_unders)), (h4, .inl (cI, 16, .inl v_manys)), (h5, .inl (cI, 17, .inl v_firsts)), (h6, .inl (cI, 2464, .inl v_volumes)), (h7, .inl (cI, 2464, .inl v_bad)), (h8, .inl (cI, 2464, .inl v_written)), (h9, .inr (4, [.ref h10, .int p1_blocks, .ref h11, .ref h12, .ref h13, .ref h14, .ref h15, .ref h16, .ref h17])), (h10, .inl (cI, 3, .inl p1_settings)), (h11, .inl (cI, 16, .inl p1_names)), (h12, .inl (cI, 16, .inl p1_unders)), (h13, .inl (cI, 16, .inl p1_manys)), (h14, .inl (cI, 17, .inl p1_firsts)), (h15, .inl (cI, 2464, .inl p1_volumes)), (h16, .inl (cI, 2464, .inl p1_bad)), (h17, .inl (cI, 2464, .inl p1_written))] H := hP
  have hD : va_D A [(h0, .inr (4, [.ref h1, .int p1_blocks, .ref h2, .ref h3, .ref h4, .ref h5, .ref h6, .ref h7, .ref h8])), (h1, .inl (cI, 3, .inl (va_cpy p1_settings v_settings 0 0 3))), (h2, .inl (cI, 16, .inl v_names)), (h3, .inl (cI, 16, .inl v_unders)), (h4, .inl (cI, 16, .inl v_manys)), (h5, .inl (cI, 17, .inl v_firsts)), (h6, .inl (cI, 2464, .inl v_volumes)), (h7, .inl (cI, 2464, .inl v_bad)), (h8, .inl (cI, 2464, .inl v_written)), (h9, .inr (4, [.ref h10, .int p1_blocks, .ref h11, .ref h12, .ref h13, .ref h14, .ref h15, .ref h16, .ref h17])), (h10, .inl (cI, 3, .inl p1_settings)), (h11, .inl (cI, 16, .inl p1_names)), (h12, .inl (cI, 16, .inl p1_unders)), (h13, .inl (cI, 16, .inl p1_manys)), (h14, .inl (cI, 17, .inl p1_firsts)), (h15, .inl (cI, 2464, .inl p1_volumes)), (h16, .inl (cI, 2464, .inl p1_bad)), (h17, .inl (cI, 2464, .inl p1_written))] := hD
  refine lv_aload_n hx hb dX4_copyFrom_22 rfl (lv_at hl 1 rfl) ?_
  refine va_get (D := (dC, dI)) (ci := 4) (v := .ref h11) (C := RX4) (T := TX4) (N := 9) hx hb hts inX4_copyFrom_X4 hown hK hP 9 rfl rfl 2 (by decide) (hts _ kX4_copyFrom_7) (fun _ h9 => h9) rfl dX4_copyFrom_23 ?_
  refine lv_iconst (v := 0) hx hb dX4_copyFrom_26 (by decide) ?_
  refine lv_aload_n hx hb dX4_copyFrom_27 rfl (lv_at hl 0 rfl) ?_
  refine va_get (D := (dC, dI)) (ci := 4) (v := .ref h2) (C := RX4) (T := TX4) (N := 9) hx hb hts inX4_copyFrom_X4 hown hK hP 0 rfl rfl 2 (by decide) (hts _ kX4_copyFrom_7) (fun _ h9 => h9) rfl dX4_copyFrom_28 ?_
  refine lv_iconst (v := 0) hx hb dX4_copyFrom_31 (by decide) ?_
  refine lv_bipush (v := 16) hx hb dX4_copyFrom_32 (by decide) ?_
  refine x_copyi (k := 16) hx hb (hml.trans hl.1.symm) hown (hts _ kX4_copyFrom_3) (hts _ kX4_copyFrom_4) (hts _ kX4_copyFrom_5) (hts _ kX4_copyFrom_6) hK hP hD hS 11 2 0 0 rfl rfl rfl rfl (by decide) (by decide) (by decide) rfl (Nat.le_of_ble_eq_true rfl) (Nat.le_of_ble_eq_true rfl) dX4_copyFrom_34 (fun H locs hP hD hS => ?_)
  have hP : va_P (dC, dI) vwCl [(h0, .inr (4, [.ref h1, .int p1_blocks, .ref h2, .ref h3, .ref h4, .ref h5, .ref h6, .ref h7, .ref h8])), (h1, .inl (cI, 3, .inl (va_cpy p1_settings v_settings 0 0 3))), (h2, .inl (cI, 16, .inl (va_cpy p1_names v_names 0 0 16))), (h3, .inl (cI, 16, .inl v_unders)), (h4, .inl (cI, 16, .inl v_manys)), (h5, .inl (cI, 17, .inl v_firsts)), (h6, .inl (cI, 2464, .inl v_volumes)), (h7, .inl (cI, 2464, .inl v_bad)), (h8, .inl (cI, 2464, .inl v_written)), (h9, .inr (4, [.ref h10, .int p1_blocks, .ref h11, .ref h12, .ref h13, .ref h14, .ref h15, .ref h16, .ref h17])), (h10, .inl (cI, 3, .inl p1_settings)), (h11, .inl (cI, 16, .inl p1_names)), (h12, .inl (cI, 16, .inl p1_unders)), (h13, .inl (cI, 16, .inl p1_manys)), (h14, .inl (cI, 17, .inl p1_firsts)), (h15, .inl (cI, 2464, .inl p1_volumes)), (h16, .inl (cI, 2464, .inl p1_bad)), (h17, .inl (cI, 2464, .inl p1_written))] H := hP
  have hD : va_D A [(h0, .inr (4, [.ref h1, .int p1_blocks, .ref h2, .ref h3, .ref h4, .ref h5, .ref h6, .ref h7, .ref h8])), (h1, .inl (cI, 3, .inl (va_cpy p1_settings v_settings 0 0 3))), (h2, .inl (cI, 16, .inl (va_cpy p1_names v_names 0 0 16))), (h3, .inl (cI, 16, .inl v_unders)), (h4, .inl (cI, 16, .inl v_manys)), (h5, .inl (cI, 17, .inl v_firsts)), (h6, .inl (cI, 2464, .inl v_volumes)), (h7, .inl (cI, 2464, .inl v_bad)), (h8, .inl (cI, 2464, .inl v_written)), (h9, .inr (4, [.ref h10, .int p1_blocks, .ref h11, .ref h12, .ref h13, .ref h14, .ref h15, .ref h16, .ref h17])), (h10, .inl (cI, 3, .inl p1_settings)), (h11, .inl (cI, 16, .inl p1_names)), (h12, .inl (cI, 16, .inl p1_unders)), (h13, .inl (cI, 16, .inl p1_manys)), (h14, .inl (cI, 17, .inl p1_firsts)), (h15, .inl (cI, 2464, .inl p1_volumes)), (h16, .inl (cI, 2464, .inl p1_bad)), (h17, .inl (cI, 2464, .inl p1_written))] := hD
  refine lv_aload_n hx hb dX4_copyFrom_37 rfl (lv_at hl 1 rfl) ?_
  refine va_get (D := (dC, dI)) (ci := 4) (v := .ref h12) (C := RX4) (T := TX4) (N := 9) hx hb hts inX4_copyFrom_X4 hown hK hP 9 rfl rfl 3 (by decide) (hts _ kX4_copyFrom_8) (fun _ h9 => h9) rfl dX4_copyFrom_38 ?_
  refine lv_iconst (v := 0) hx hb dX4_copyFrom_41 (by decide) ?_
  refine lv_aload_n hx hb dX4_copyFrom_42 rfl (lv_at hl 0 rfl) ?_
  refine va_get (D := (dC, dI)) (ci := 4) (v := .ref h3) (C := RX4) (T := TX4) (N := 9) hx hb hts inX4_copyFrom_X4 hown hK hP 0 rfl rfl 3 (by decide) (hts _ kX4_copyFrom_8) (fun _ h9 => h9) rfl dX4_copyFrom_43 ?_
  refine lv_iconst (v := 0) hx hb dX4_copyFrom_46 (by decide) ?_
  refine lv_bipush (v := 16) hx hb dX4_copyFrom_47 (by decide) ?_
  refine x_copyi (k := 16) hx hb (hml.trans hl.1.symm) hown (hts _ kX4_copyFrom_3) (hts _ kX4_copyFrom_4) (hts _ kX4_copyFrom_5) (hts _ kX4_copyFrom_6) hK hP hD hS 12 3 0 0 rfl rfl rfl rfl (by decide) (by decide) (by decide) rfl (Nat.le_of_ble_eq_true rfl) (Nat.le_of_ble_eq_true rfl) dX4_copyFrom_49 (fun H locs hP hD hS => ?_)
  have hP : va_P (dC, dI) vwCl [(h0, .inr (4, [.ref h1, .int p1_blocks, .ref h2, .ref h3, .ref h4, .ref h5, .ref h6, .ref h7, .ref h8])), (h1, .inl (cI, 3, .inl (va_cpy p1_settings v_settings 0 0 3))), (h2, .inl (cI, 16, .inl (va_cpy p1_names v_names 0 0 16))), (h3, .inl (cI, 16, .inl (va_cpy p1_unders v_unders 0 0 16))), (h4, .inl (cI, 16, .inl v_manys)), (h5, .inl (cI, 17, .inl v_firsts)), (h6, .inl (cI, 2464, .inl v_volumes)), (h7, .inl (cI, 2464, .inl v_bad)), (h8, .inl (cI, 2464, .inl v_written)), (h9, .inr (4, [.ref h10, .int p1_blocks, .ref h11, .ref h12, .ref h13, .ref h14, .ref h15, .ref h16, .ref h17])), (h10, .inl (cI, 3, .inl p1_settings)), (h11, .inl (cI, 16, .inl p1_names)), (h12, .inl (cI, 16, .inl p1_unders)), (h13, .inl (cI, 16, .inl p1_manys)), (h14, .inl (cI, 17, .inl p1_firsts)), (h15, .inl (cI, 2464, .inl p1_volumes)), (h16, .inl (cI, 2464, .inl p1_bad)), (h17, .inl (cI, 2464, .inl p1_written))] H := hP
  have hD : va_D A [(h0, .inr (4, [.ref h1, .int p1_blocks, .ref h2, .ref h3, .ref h4, .ref h5, .ref h6, .ref h7, .ref h8])), (h1, .inl (cI, 3, .inl (va_cpy p1_settings v_settings 0 0 3))), (h2, .inl (cI, 16, .inl (va_cpy p1_names v_names 0 0 16))), (h3, .inl (cI, 16, .inl (va_cpy p1_unders v_unders 0 0 16))), (h4, .inl (cI, 16, .inl v_manys)), (h5, .inl (cI, 17, .inl v_firsts)), (h6, .inl (cI, 2464, .inl v_volumes)), (h7, .inl (cI, 2464, .inl v_bad)), (h8, .inl (cI, 2464, .inl v_written)), (h9, .inr (4, [.ref h10, .int p1_blocks, .ref h11, .ref h12, .ref h13, .ref h14, .ref h15, .ref h16, .ref h17])), (h10, .inl (cI, 3, .inl p1_settings)), (h11, .inl (cI, 16, .inl p1_names)), (h12, .inl (cI, 16, .inl p1_unders)), (h13, .inl (cI, 16, .inl p1_manys)), (h14, .inl (cI, 17, .inl p1_firsts)), (h15, .inl (cI, 2464, .inl p1_volumes)), (h16, .inl (cI, 2464, .inl p1_bad)), (h17, .inl (cI, 2464, .inl p1_written))] := hD
  refine lv_aload_n hx hb dX4_copyFrom_52 rfl (lv_at hl 1 rfl) ?_
  refine va_get (D := (dC, dI)) (ci := 4) (v := .ref h13) (C := RX4) (T := TX4) (N := 9) hx hb hts inX4_copyFrom_X4 hown hK hP 9 rfl rfl 4 (by decide) (hts _ kX4_copyFrom_9) (fun _ h9 => h9) rfl dX4_copyFrom_53 ?_
  refine lv_iconst (v := 0) hx hb dX4_copyFrom_56 (by decide) ?_
  refine lv_aload_n hx hb dX4_copyFrom_57 rfl (lv_at hl 0 rfl) ?_
  refine va_get (D := (dC, dI)) (ci := 4) (v := .ref h4) (C := RX4) (T := TX4) (N := 9) hx hb hts inX4_copyFrom_X4 hown hK hP 0 rfl rfl 4 (by decide) (hts _ kX4_copyFrom_9) (fun _ h9 => h9) rfl dX4_copyFrom_58 ?_
  refine lv_iconst (v := 0) hx hb dX4_copyFrom_61 (by decide) ?_
  refine lv_bipush (v := 16) hx hb dX4_copyFrom_62 (by decide) ?_
  refine x_copyi (k := 16) hx hb (hml.trans hl.1.symm) hown (hts _ kX4_copyFrom_3) (hts _ kX4_copyFrom_4) (hts _ kX4_copyFrom_5) (hts _ kX4_copyFrom_6) hK hP hD hS 13 4 0 0 rfl rfl rfl rfl (by decide) (by decide) (by decide) rfl (Nat.le_of_ble_eq_true rfl) (Nat.le_of_ble_eq_true rfl) dX4_copyFrom_64 (fun H locs hP hD hS => ?_)
  have hP : va_P (dC, dI) vwCl [(h0, .inr (4, [.ref h1, .int p1_blocks, .ref h2, .ref h3, .ref h4, .ref h5, .ref h6, .ref h7, .ref h8])), (h1, .inl (cI, 3, .inl (va_cpy p1_settings v_settings 0 0 3))), (h2, .inl (cI, 16, .inl (va_cpy p1_names v_names 0 0 16))), (h3, .inl (cI, 16, .inl (va_cpy p1_unders v_unders 0 0 16))), (h4, .inl (cI, 16, .inl (va_cpy p1_manys v_manys 0 0 16))), (h5, .inl (cI, 17, .inl v_firsts)), (h6, .inl (cI, 2464, .inl v_volumes)), (h7, .inl (cI, 2464, .inl v_bad)), (h8, .inl (cI, 2464, .inl v_written)), (h9, .inr (4, [.ref h10, .int p1_blocks, .ref h11, .ref h12, .ref h13, .ref h14, .ref h15, .ref h16, .ref h17])), (h10, .inl (cI, 3, .inl p1_settings)), (h11, .inl (cI, 16, .inl p1_names)), (h12, .inl (cI, 16, .inl p1_unders)), (h13, .inl (cI, 16, .inl p1_manys)), (h14, .inl (cI, 17, .inl p1_firsts)), (h15, .inl (cI, 2464, .inl p1_volumes)), (h16, .inl (cI, 2464, .inl p1_bad)), (h17, .inl (cI, 2464, .inl p1_written))] H := hP
  have hD : va_D A [(h0, .inr (4, [.ref h1, .int p1_blocks, .ref h2, .ref h3, .ref h4, .ref h5, .ref h6, .ref h7, .ref h8])), (h1, .inl (cI, 3, .inl (va_cpy p1_settings v_settings 0 0 3))), (h2, .inl (cI, 16, .inl (va_cpy p1_names v_names 0 0 16))), (h3, .inl (cI, 16, .inl (va_cpy p1_unders v_unders 0 0 16))), (h4, .inl (cI, 16, .inl (va_cpy p1_manys v_manys 0 0 16))), (h5, .inl (cI, 17, .inl v_firsts)), (h6, .inl (cI, 2464, .inl v_volumes)), (h7, .inl (cI, 2464, .inl v_bad)), (h8, .inl (cI, 2464, .inl v_written)), (h9, .inr (4, [.ref h10, .int p1_blocks, .ref h11, .ref h12, .ref h13, .ref h14, .ref h15, .ref h16, .ref h17])), (h10, .inl (cI, 3, .inl p1_settings)), (h11, .inl (cI, 16, .inl p1_names)), (h12, .inl (cI, 16, .inl p1_unders)), (h13, .inl (cI, 16, .inl p1_manys)), (h14, .inl (cI, 17, .inl p1_firsts)), (h15, .inl (cI, 2464, .inl p1_volumes)), (h16, .inl (cI, 2464, .inl p1_bad)), (h17, .inl (cI, 2464, .inl p1_written))] := hD
  refine lv_aload_n hx hb dX4_copyFrom_67 rfl (lv_at hl 1 rfl) ?_
  refine va_get (D := (dC, dI)) (ci := 4) (v := .ref h14) (C := RX4) (T := TX4) (N := 9) hx hb hts inX4_copyFrom_X4 hown hK hP 9 rfl rfl 5 (by decide) (hts _ kX4_copyFrom_10) (fun _ h9 => h9) rfl dX4_copyFrom_68 ?_
  refine lv_iconst (v := 0) hx hb dX4_copyFrom_71 (by decide) ?_
  refine lv_aload_n hx hb dX4_copyFrom_72 rfl (lv_at hl 0 rfl) ?_
  refine va_get (D := (dC, dI)) (ci := 4) (v := .ref h5) (C := RX4) (T := TX4) (N := 9) hx hb hts inX4_copyFrom_X4 hown hK hP 0 rfl rfl 5 (by decide) (hts _ kX4_copyFrom_10) (fun _ h9 => h9) rfl dX4_copyFrom_73 ?_
  refine lv_iconst (v := 0) hx hb dX4_copyFrom_76 (by decide) ?_
  refine lv_bipush (v := 17) hx hb dX4_copyFrom_77 (by decide) ?_
  refine x_copyi (k := 17) hx hb (hml.trans hl.1.symm) hown (hts _ kX4_copyFrom_3) (hts _ kX4_copyFrom_4) (hts _ kX4_copyFrom_5) (hts _ kX4_copyFrom_6) hK hP hD hS 14 5 0 0 rfl rfl rfl rfl (by decide) (by decide) (by decide) rfl (Nat.le_of_ble_eq_true rfl) (Nat.le_of_ble_eq_true rfl) dX4_copyFrom_79 (fun H locs hP hD hS => ?_)
  have hP : va_P (dC, dI) vwCl [(h0, .inr (4, [.ref h1, .int p1_blocks, .ref h2, .ref h3, .ref h4, .ref h5, .ref h6, .ref h7, .ref h8])), (h1, .inl (cI, 3, .inl (va_cpy p1_settings v_settings 0 0 3))), (h2, .inl (cI, 16, .inl (va_cpy p1_names v_names 0 0 16))), (h3, .inl (cI, 16, .inl (va_cpy p1_unders v_unders 0 0 16))), (h4, .inl (cI, 16, .inl (va_cpy p1_manys v_manys 0 0 16))), (h5, .inl (cI, 17, .inl (va_cpy p1_firsts v_firsts 0 0 17))), (h6, .inl (cI, 2464, .inl v_volumes)), (h7, .inl (cI, 2464, .inl v_bad)), (h8, .inl (cI, 2464, .inl v_written)), (h9, .inr (4, [.ref h10, .int p1_blocks, .ref h11, .ref h12, .ref h13, .ref h14, .ref h15, .ref h16, .ref h17])), (h10, .inl (cI, 3, .inl p1_settings)), (h11, .inl (cI, 16, .inl p1_names)), (h12, .inl (cI, 16, .inl p1_unders)), (h13, .inl (cI, 16, .inl p1_manys)), (h14, .inl (cI, 17, .inl p1_firsts)), (h15, .inl (cI, 2464, .inl p1_volumes)), (h16, .inl (cI, 2464, .inl p1_bad)), (h17, .inl (cI, 2464, .inl p1_written))] H := hP
  have hD : va_D A [(h0, .inr (4, [.ref h1, .int p1_blocks, .ref h2, .ref h3, .ref h4, .ref h5, .ref h6, .ref h7, .ref h8])), (h1, .inl (cI, 3, .inl (va_cpy p1_settings v_settings 0 0 3))), (h2, .inl (cI, 16, .inl (va_cpy p1_names v_names 0 0 16))), (h3, .inl (cI, 16, .inl (va_cpy p1_unders v_unders 0 0 16))), (h4, .inl (cI, 16, .inl (va_cpy p1_manys v_manys 0 0 16))), (h5, .inl (cI, 17, .inl (va_cpy p1_firsts v_firsts 0 0 17))), (h6, .inl (cI, 2464, .inl v_volumes)), (h7, .inl (cI, 2464, .inl v_bad)), (h8, .inl (cI, 2464, .inl v_written)), (h9, .inr (4, [.ref h10, .int p1_blocks, .ref h11, .ref h12, .ref h13, .ref h14, .ref h15, .ref h16, .ref h17])), (h10, .inl (cI, 3, .inl p1_settings)), (h11, .inl (cI, 16, .inl p1_names)), (h12, .inl (cI, 16, .inl p1_unders)), (h13, .inl (cI, 16, .inl p1_manys)), (h14, .inl (cI, 17, .inl p1_firsts)), (h15, .inl (cI, 2464, .inl p1_volumes)), (h16, .inl (cI, 2464, .inl p1_bad)), (h17, .inl (cI, 2464, .inl p1_written))] := hD
  refine lv_iconst (v := 0) hx hb dX4_copyFrom_82 (by decide) ?_
  refine lv_aload_n hx hb dX4_copyFrom_83 rfl (lv_at hl 0 rfl) ?_
  obtain ⟨q1, hq1, hd⟩ := bnd_some hd
  have hPc : va_P (dC, dI) vwCl [(h0, .inr (4, [.ref h1, .int p1_blocks, .ref h2, .ref h3, .ref h4, .ref h5, .ref h6, .ref h7, .ref h8])), (h5, .inl (cI, 17, .inl (va_cpy p1_firsts v_firsts 0 0 17)))] _ := hP.sub [0, 5] rfl
  have hDc := hD.sub (ws' := [(h0, .inr (4, [.ref h1, .int p1_blocks, .ref h2, .ref h3, .ref h4, .ref h5, .ref h6, .ref h7, .ref h8])), (h5, .inl (cI, 17, .inl (va_cpy p1_firsts v_firsts 0 0 17)))]) [0, 5] (by decide) rfl
  have hFc := va_free (wc := [(h0, .inr (4, [.ref h1, .int p1_blocks, .ref h2, .ref h3, .ref h4, .ref h5, .ref h6, .ref h7, .ref h8])), (h5, .inl (cI, 17, .inl (va_cpy p1_firsts v_firsts 0 0 17)))]) hD hS hA [0, 5] rfl
  refine va_calli (va_runV (As := []) (rest := [.int (0 : Int32)]) ⟨hx, hb, hml, hown, hts⟩ (c_X4_cells l dC dI cI cC cT cL h0 h1 h2 h3 h4 h5 h6 h7 h8 H.size p1_blocks (va_cpy p1_firsts v_firsts 0 0 17) q1 hq1) (cwV 0 hts gX4_copyFrom_X4_cells rfl rfl rfl hv_X4_cells ⟨Nat.le_of_ble_eq_true rfl, Nat.le_of_ble_eq_true rfl⟩) ⟨preB_fb, va_recv hK hPc (ci := 4) (q0 := 0) rfl rfl, fun U hU hW => preB_mk hU hW hPc hK hDc hN⟩ rfl rfl hl.1 rfl (lv_room (Nat.le_of_ble_eq_true rfl)) dX4_copyFrom_84 ⟨Nat.zero_le _, Nat.zero_le _⟩) hS (fun q _ h => hFc q h) hFc (fun r_ u_ t H locs ht hvm hw hB hz1 hk1 hS => ?_)
  have hw : r_ = q1 := hw
  have hw := hw.symm
  subst hw
  obtain ⟨hP, hD⟩ := x_join (ws' := [(h0, .inr (4, [.ref h1, .int p1_blocks, .ref h2, .ref h3, .ref h4, .ref h5, .ref h6, .ref h7, .ref h8])), (h1, .inl (cI, 3, .inl (va_cpy p1_settings v_settings 0 0 3))), (h2, .inl (cI, 16, .inl (va_cpy p1_names v_names 0 0 16))), (h3, .inl (cI, 16, .inl (va_cpy p1_unders v_unders 0 0 16))), (h4, .inl (cI, 16, .inl (va_cpy p1_manys v_manys 0 0 16))), (h5, .inl (cI, 17, .inl (va_cpy p1_firsts v_firsts 0 0 17))), (h6, .inl (cI, 2464, .inl v_volumes)), (h7, .inl (cI, 2464, .inl v_bad)), (h8, .inl (cI, 2464, .inl v_written)), (h9, .inr (4, [.ref h10, .int p1_blocks, .ref h11, .ref h12, .ref h13, .ref h14, .ref h15, .ref h16, .ref h17])), (h10, .inl (cI, 3, .inl p1_settings)), (h11, .inl (cI, 16, .inl p1_names)), (h12, .inl (cI, 16, .inl p1_unders)), (h13, .inl (cI, 16, .inl p1_manys)), (h14, .inl (cI, 17, .inl p1_firsts)), (h15, .inl (cI, 2464, .inl p1_volumes)), (h16, .inl (cI, 2464, .inl p1_bad)), (h17, .inl (cI, 2464, .inl p1_written))]) hP hD [0, 5] [1, 2, 3, 4, 6, 7, 8, 9, 10, 11, 12, 13, 14, 15, 16, 17] rfl rfl (by decide) (by decide) hk1 hFc ht hB [16, 0, 1, 2, 3, 17, 4, 5, 6, 7, 8, 9, 10, 11, 12, 13, 14, 15] (by decide) rfl
  clear hPc hDc hFc hk1 hB ht hz1 hvm
  refine lv_sipush (v := 2464) hx hb dX4_copyFrom_87 (by decide) ?_
  refine va_mmin hx hb (hml.trans hl.1.symm) hown (hts _ kX4_copyFrom_11) (hts _ kX4_copyFrom_12) (hts _ kX4_copyFrom_13) (hts _ kX4_copyFrom_14) (Nat.le_of_ble_eq_true rfl) (Nat.le_of_ble_eq_true rfl) (Nat.zero_le _) (Nat.zero_le _) dX4_copyFrom_90 ?_
  refine lv_topi (fun x2 ex2 => ?_)
  replace hd := nm_some ex2 hd
  refine va_mmax hx hb (hml.trans hl.1.symm) hown (hts _ kX4_copyFrom_15) (hts _ kX4_copyFrom_16) (hts _ kX4_copyFrom_13) (hts _ kX4_copyFrom_17) (Nat.le_of_ble_eq_true rfl) (Nat.le_of_ble_eq_true rfl) (Nat.zero_le _) (Nat.zero_le _) dX4_copyFrom_93 ?_
  refine lv_topi (fun x3 ex3 => ?_)
  replace hd := nm_some ex3 hd
  refine lv_istore_n (lv' := [(2, .int x3), (0, .ref h0), (1, .ref h9)]) hx hb dX4_copyFrom_96 rfl hl (by decide) rfl (fun ls hl => ?_)
  refine lv_aload_n hx hb dX4_copyFrom_97 rfl (lv_at hl 2 rfl) ?_
  refine va_get (D := (dC, dI)) (ci := 4) (v := .ref h15) (C := RX4) (T := TX4) (N := 9) hx hb hts inX4_copyFrom_X4 hown hK hP 9 rfl rfl 6 (by decide) (hts _ kX4_copyFrom_18) (fun _ h9 => h9) rfl dX4_copyFrom_98 ?_
  refine lv_iconst (v := 0) hx hb dX4_copyFrom_101 (by decide) ?_
  refine lv_aload_n hx hb dX4_copyFrom_102 rfl (lv_at hl 1 rfl) ?_
  refine va_get (D := (dC, dI)) (ci := 4) (v := .ref h6) (C := RX4) (T := TX4) (N := 9) hx hb hts inX4_copyFrom_X4 hown hK hP 0 rfl rfl 6 (by decide) (hts _ kX4_copyFrom_18) (fun _ h9 => h9) rfl dX4_copyFrom_103 ?_
  refine lv_iconst (v := 0) hx hb dX4_copyFrom_106 (by decide) ?_
  refine lv_iload_n hx hb dX4_copyFrom_107 rfl (lv_at hl 0 rfl) ?_
  obtain ⟨g4, hd⟩ := gd_some hd
  refine x_copyi (k := x3.toNatClampNeg) hx hb (hml.trans hl.1.symm) hown (hts _ kX4_copyFrom_3) (hts _ kX4_copyFrom_4) (hts _ kX4_copyFrom_5) (hts _ kX4_copyFrom_6) hK hP hD hS 15 6 0 0 rfl rfl rfl rfl (cpb_0 g4) (cpb_1 g4) (cpb_1 g4) rfl (Nat.le_of_ble_eq_true rfl) (Nat.le_of_ble_eq_true rfl) dX4_copyFrom_108 (fun H locs hP hD hS => ?_)
  have hP : va_P (dC, dI) vwCl [(h0, .inr (4, [.ref h1, .int p1_blocks, .ref h2, .ref h3, .ref h4, .ref h5, .ref h6, .ref h7, .ref h8])), (h1, .inl (cI, 3, .inl (va_cpy p1_settings v_settings 0 0 3))), (h2, .inl (cI, 16, .inl (va_cpy p1_names v_names 0 0 16))), (h3, .inl (cI, 16, .inl (va_cpy p1_unders v_unders 0 0 16))), (h4, .inl (cI, 16, .inl (va_cpy p1_manys v_manys 0 0 16))), (h5, .inl (cI, 17, .inl (va_cpy p1_firsts v_firsts 0 0 17))), (h6, .inl (cI, 2464, .inl (va_cpy p1_volumes v_volumes 0 0 x3.toNatClampNeg))), (h7, .inl (cI, 2464, .inl v_bad)), (h8, .inl (cI, 2464, .inl v_written)), (h9, .inr (4, [.ref h10, .int p1_blocks, .ref h11, .ref h12, .ref h13, .ref h14, .ref h15, .ref h16, .ref h17])), (h10, .inl (cI, 3, .inl p1_settings)), (h11, .inl (cI, 16, .inl p1_names)), (h12, .inl (cI, 16, .inl p1_unders)), (h13, .inl (cI, 16, .inl p1_manys)), (h14, .inl (cI, 17, .inl p1_firsts)), (h15, .inl (cI, 2464, .inl p1_volumes)), (h16, .inl (cI, 2464, .inl p1_bad)), (h17, .inl (cI, 2464, .inl p1_written))] H := hP
  have hD : va_D A [(h0, .inr (4, [.ref h1, .int p1_blocks, .ref h2, .ref h3, .ref h4, .ref h5, .ref h6, .ref h7, .ref h8])), (h1, .inl (cI, 3, .inl (va_cpy p1_settings v_settings 0 0 3))), (h2, .inl (cI, 16, .inl (va_cpy p1_names v_names 0 0 16))), (h3, .inl (cI, 16, .inl (va_cpy p1_unders v_unders 0 0 16))), (h4, .inl (cI, 16, .inl (va_cpy p1_manys v_manys 0 0 16))), (h5, .inl (cI, 17, .inl (va_cpy p1_firsts v_firsts 0 0 17))), (h6, .inl (cI, 2464, .inl (va_cpy p1_volumes v_volumes 0 0 x3.toNatClampNeg))), (h7, .inl (cI, 2464, .inl v_bad)), (h8, .inl (cI, 2464, .inl v_written)), (h9, .inr (4, [.ref h10, .int p1_blocks, .ref h11, .ref h12, .ref h13, .ref h14, .ref h15, .ref h16, .ref h17])), (h10, .inl (cI, 3, .inl p1_settings)), (h11, .inl (cI, 16, .inl p1_names)), (h12, .inl (cI, 16, .inl p1_unders)), (h13, .inl (cI, 16, .inl p1_manys)), (h14, .inl (cI, 17, .inl p1_firsts)), (h15, .inl (cI, 2464, .inl p1_volumes)), (h16, .inl (cI, 2464, .inl p1_bad)), (h17, .inl (cI, 2464, .inl p1_written))] := hD
  refine lv_aload_n hx hb dX4_copyFrom_111 rfl (lv_at hl 2 rfl) ?_
  refine va_get (D := (dC, dI)) (ci := 4) (v := .ref h16) (C := RX4) (T := TX4) (N := 9) hx hb hts inX4_copyFrom_X4 hown hK hP 9 rfl rfl 7 (by decide) (hts _ kX4_copyFrom_19) (fun _ h9 => h9) rfl dX4_copyFrom_112 ?_
  refine lv_iconst (v := 0) hx hb dX4_copyFrom_115 (by decide) ?_
  refine lv_aload_n hx hb dX4_copyFrom_116 rfl (lv_at hl 1 rfl) ?_
  refine va_get (D := (dC, dI)) (ci := 4) (v := .ref h7) (C := RX4) (T := TX4) (N := 9) hx hb hts inX4_copyFrom_X4 hown hK hP 0 rfl rfl 7 (by decide) (hts _ kX4_copyFrom_19) (fun _ h9 => h9) rfl dX4_copyFrom_117 ?_
  refine lv_iconst (v := 0) hx hb dX4_copyFrom_120 (by decide) ?_
  refine lv_iload_n hx hb dX4_copyFrom_121 rfl (lv_at hl 0 rfl) ?_
  obtain ⟨g5, hd⟩ := gd_some hd
  refine x_copyi (k := x3.toNatClampNeg) hx hb (hml.trans hl.1.symm) hown (hts _ kX4_copyFrom_3) (hts _ kX4_copyFrom_4) (hts _ kX4_copyFrom_5) (hts _ kX4_copyFrom_6) hK hP hD hS 16 7 0 0 rfl rfl rfl rfl (cpb_0 g5) (cpb_1 g5) (cpb_1 g5) rfl (Nat.le_of_ble_eq_true rfl) (Nat.le_of_ble_eq_true rfl) dX4_copyFrom_122 (fun H locs hP hD hS => ?_)
  have hP : va_P (dC, dI) vwCl [(h0, .inr (4, [.ref h1, .int p1_blocks, .ref h2, .ref h3, .ref h4, .ref h5, .ref h6, .ref h7, .ref h8])), (h1, .inl (cI, 3, .inl (va_cpy p1_settings v_settings 0 0 3))), (h2, .inl (cI, 16, .inl (va_cpy p1_names v_names 0 0 16))), (h3, .inl (cI, 16, .inl (va_cpy p1_unders v_unders 0 0 16))), (h4, .inl (cI, 16, .inl (va_cpy p1_manys v_manys 0 0 16))), (h5, .inl (cI, 17, .inl (va_cpy p1_firsts v_firsts 0 0 17))), (h6, .inl (cI, 2464, .inl (va_cpy p1_volumes v_volumes 0 0 x3.toNatClampNeg))), (h7, .inl (cI, 2464, .inl (va_cpy p1_bad v_bad 0 0 x3.toNatClampNeg))), (h8, .inl (cI, 2464, .inl v_written)), (h9, .inr (4, [.ref h10, .int p1_blocks, .ref h11, .ref h12, .ref h13, .ref h14, .ref h15, .ref h16, .ref h17])), (h10, .inl (cI, 3, .inl p1_settings)), (h11, .inl (cI, 16, .inl p1_names)), (h12, .inl (cI, 16, .inl p1_unders)), (h13, .inl (cI, 16, .inl p1_manys)), (h14, .inl (cI, 17, .inl p1_firsts)), (h15, .inl (cI, 2464, .inl p1_volumes)), (h16, .inl (cI, 2464, .inl p1_bad)), (h17, .inl (cI, 2464, .inl p1_written))] H := hP
  have hD : va_D A [(h0, .inr (4, [.ref h1, .int p1_blocks, .ref h2, .ref h3, .ref h4, .ref h5, .ref h6, .ref h7, .ref h8])), (h1, .inl (cI, 3, .inl (va_cpy p1_settings v_settings 0 0 3))), (h2, .inl (cI, 16, .inl (va_cpy p1_names v_names 0 0 16))), (h3, .inl (cI, 16, .inl (va_cpy p1_unders v_unders 0 0 16))), (h4, .inl (cI, 16, .inl (va_cpy p1_manys v_manys 0 0 16))), (h5, .inl (cI, 17, .inl (va_cpy p1_firsts v_firsts 0 0 17))), (h6, .inl (cI, 2464, .inl (va_cpy p1_volumes v_volumes 0 0 x3.toNatClampNeg))), (h7, .inl (cI, 2464, .inl (va_cpy p1_bad v_bad 0 0 x3.toNatClampNeg))), (h8, .inl (cI, 2464, .inl v_written)), (h9, .inr (4, [.ref h10, .int p1_blocks, .ref h11, .ref h12, .ref h13, .ref h14, .ref h15, .ref h16, .ref h17])), (h10, .inl (cI, 3, .inl p1_settings)), (h11, .inl (cI, 16, .inl p1_names)), (h12, .inl (cI, 16, .inl p1_unders)), (h13, .inl (cI, 16, .inl p1_manys)), (h14, .inl (cI, 17, .inl p1_firsts)), (h15, .inl (cI, 2464, .inl p1_volumes)), (h16, .inl (cI, 2464, .inl p1_bad)), (h17, .inl (cI, 2464, .inl p1_written))] := hD
  refine lv_aload_n hx hb dX4_copyFrom_125 rfl (lv_at hl 2 rfl) ?_
  refine va_get (D := (dC, dI)) (ci := 4) (v := .ref h17) (C := RX4) (T := TX4) (N := 9) hx hb hts inX4_copyFrom_X4 hown hK hP 9 rfl rfl 8 (by decide) (hts _ kX4_copyFrom_20) (fun _ h9 => h9) rfl dX4_copyFrom_126 ?_
  refine lv_iconst (v := 0) hx hb dX4_copyFrom_129 (by decide) ?_
  refine lv_aload_n hx hb dX4_copyFrom_130 rfl (lv_at hl 1 rfl) ?_
  refine va_get (D := (dC, dI)) (ci := 4) (v := .ref h8) (C := RX4) (T := TX4) (N := 9) hx hb hts inX4_copyFrom_X4 hown hK hP 0 rfl rfl 8 (by decide) (hts _ kX4_copyFrom_20) (fun _ h9 => h9) rfl dX4_copyFrom_131 ?_
  refine lv_iconst (v := 0) hx hb dX4_copyFrom_134 (by decide) ?_
  refine lv_iload_n hx hb dX4_copyFrom_135 rfl (lv_at hl 0 rfl) ?_
  obtain ⟨g6, hd⟩ := gd_some hd
  refine x_copyi (k := x3.toNatClampNeg) hx hb (hml.trans hl.1.symm) hown (hts _ kX4_copyFrom_3) (hts _ kX4_copyFrom_4) (hts _ kX4_copyFrom_5) (hts _ kX4_copyFrom_6) hK hP hD hS 17 8 0 0 rfl rfl rfl rfl (cpb_0 g6) (cpb_1 g6) (cpb_1 g6) rfl (Nat.le_of_ble_eq_true rfl) (Nat.le_of_ble_eq_true rfl) dX4_copyFrom_136 (fun H locs hP hD hS => ?_)
  have hP : va_P (dC, dI) vwCl [(h0, .inr (4, [.ref h1, .int p1_blocks, .ref h2, .ref h3, .ref h4, .ref h5, .ref h6, .ref h7, .ref h8])), (h1, .inl (cI, 3, .inl (va_cpy p1_settings v_settings 0 0 3))), (h2, .inl (cI, 16, .inl (va_cpy p1_names v_names 0 0 16))), (h3, .inl (cI, 16, .inl (va_cpy p1_unders v_unders 0 0 16))), (h4, .inl (cI, 16, .inl (va_cpy p1_manys v_manys 0 0 16))), (h5, .inl (cI, 17, .inl (va_cpy p1_firsts v_firsts 0 0 17))), (h6, .inl (cI, 2464, .inl (va_cpy p1_volumes v_volumes 0 0 x3.toNatClampNeg))), (h7, .inl (cI, 2464, .inl (va_cpy p1_bad v_bad 0 0 x3.toNatClampNeg))), (h8, .inl (cI, 2464, .inl (va_cpy p1_written v_written 0 0 x3.toNatClampNeg))), (h9, .inr (4, [.ref h10, .int p1_blocks, .ref h11, .ref h12, .ref h13, .ref h14, .ref h15, .ref h16, .ref h17])), (h10, .inl (cI, 3, .inl p1_settings)), (h11, .inl (cI, 16, .inl p1_names)), (h12, .inl (cI, 16, .inl p1_unders)), (h13, .inl (cI, 16, .inl p1_manys)), (h14, .inl (cI, 17, .inl p1_firsts)), (h15, .inl (cI, 2464, .inl p1_volumes)), (h16, .inl (cI, 2464, .inl p1_bad)), (h17, .inl (cI, 2464, .inl p1_written))] H := hP
  have hD : va_D A [(h0, .inr (4, [.ref h1, .int p1_blocks, .ref h2, .ref h3, .ref h4, .ref h5, .ref h6, .ref h7, .ref h8])), (h1, .inl (cI, 3, .inl (va_cpy p1_settings v_settings 0 0 3))), (h2, .inl (cI, 16, .inl (va_cpy p1_names v_names 0 0 16))), (h3, .inl (cI, 16, .inl (va_cpy p1_unders v_unders 0 0 16))), (h4, .inl (cI, 16, .inl (va_cpy p1_manys v_manys 0 0 16))), (h5, .inl (cI, 17, .inl (va_cpy p1_firsts v_firsts 0 0 17))), (h6, .inl (cI, 2464, .inl (va_cpy p1_volumes v_volumes 0 0 x3.toNatClampNeg))), (h7, .inl (cI, 2464, .inl (va_cpy p1_bad v_bad 0 0 x3.toNatClampNeg))), (h8, .inl (cI, 2464, .inl (va_cpy p1_written v_written 0 0 x3.toNatClampNeg))), (h9, .inr (4, [.ref h10, .int p1_blocks, .ref h11, .ref h12, .ref h13, .ref h14, .ref h15, .ref h16, .ref h17])), (h10, .inl (cI, 3, .inl p1_settings)), (h11, .inl (cI, 16, .inl p1_names)), (h12, .inl (cI, 16, .inl p1_unders)), (h13, .inl (cI, 16, .inl p1_manys)), (h14, .inl (cI, 17, .inl p1_firsts)), (h15, .inl (cI, 2464, .inl p1_volumes)), (h16, .inl (cI, 2464, .inl p1_bad)), (h17, .inl (cI, 2464, .inl p1_written))] := hD
  cases hd
  exact hend hP hD hS dX4_copyFrom_139
def rmX4_hasBlock : Room := { frames := 0, cells := 0, slots := 0, locals := 0 }
theorem kX4_hasBlock_1 : (Cond.fieldLink RX4 36 "CassetteTones$Tape" "blocks" "I") ∈ wsX4_hasBlock := List.mem_of_getElem? (i := 1) (by decide +kernel)
theorem inX4_hasBlock_X4 : ∀ w ∈ wsX40, w ∈ wsX4_hasBlock := by decide +kernel
theorem hp_X4_hasBlock : yX4_hasBlock.cls ≠ "java/lang/invoke/MethodHandle" ∧ yX4_hasBlock.cls ≠ "java/lang/invoke/VarHandle" ∧ (parseMethodDescriptor yX4_hasBlock.desc).map (fun d => d.parameters.length) = some 1 := by decide +kernel
theorem hv_X4_hasBlock : yX4_hasBlock.cls = RX4 ∧ yX4_hasBlock.cls ≠ "java/lang/invoke/MethodHandle" ∧ yX4_hasBlock.cls ≠ "java/lang/invoke/VarHandle" ∧ (parseMethodDescriptor yX4_hasBlock.desc).map (fun d => d.parameters.length) = some 1 := by decide +kernel
set_option maxHeartbeats 4000000 in
set_option maxRecDepth 100000 in
theorem c_X4_hasBlock (l : Launch) (dC : Nat → ClassId) (dI : Nat → Nat → Nat) (cI cC cT cL : ClassId) (h0 h1 h2 h3 h4 h5 h6 h7 h8 : Nat) (sz : Nat) (v_blocks : Int32) (p1 : Int32) (r : Int32) (hd : den_X4_hasBlock v_blocks p1 = some r) : Met l yX4_hasBlock wsX4_hasBlock rmX4_hasBlock (va_Pc [.ref h0, .int p1] (preB sz (dC, dI) [(h0, .inr (4, [.ref h1, .int v_blocks, .ref h2, .ref h3, .ref h4, .ref h5, .ref h6, .ref h7, .ref h8]))] [(cI, .int), (cC, .char), (cT, .object "CassetteTones$Tape"), (cL, .long)])) (va_Qi (S := Unit) (fun v _ => v = r) (fun _ t => posB (dC, dI) [(h0, .inr (4, [.ref h1, .int v_blocks, .ref h2, .ref h3, .ref h4, .ref h5, .ref h6, .ref h7, .ref h8]))] [(cI, .int), (cC, .char), (cT, .object "CassetteTones$Tape"), (cL, .long)] (va_A [(h0, .inr (4, [.ref h1, .int v_blocks, .ref h2, .ref h3, .ref h4, .ref h5, .ref h6, .ref h7, .ref h8]))] sz) t) (va_A [(h0, .inr (4, [.ref h1, .int v_blocks, .ref h2, .ref h3, .ref h4, .ref h5, .ref h6, .ref h7, .ref h8]))] sz)) 0 0 (va_A [(h0, .inr (4, [.ref h1, .int v_blocks, .ref h2, .ref h3, .ref h4, .ref h5, .ref h6, .ref h7, .ref h8]))] sz) := by
  refine x_met_z (by decide) rfl (Nat.le_of_ble_eq_true rfl) ?_
  intro p e s m args below meth c A Q H locs ls hx hb hml hown hts hK hN hA hP hD hS hl hend
  have hown : s.vm.findClass RX4 = some m.cls := hown
  have hl : lv_has ls 2 [(0, .ref h0), (1, .int p1)] := hl
  unfold den_X4_hasBlock at hd
  refine lv_iload_n hx hb dX4_hasBlock_0 rfl (lv_at hl 1 rfl) ?_
  refine lv_if_lt (tgt := 16) hx hb dX4_hasBlock_1 (by decide) (fun c1 => ?_) (fun c1 => ?_)
  · replace hd := ite_t c1 hd
    refine lv_iconst (v := 0) hx hb dX4_hasBlock_16 (by decide) ?_
    cases hd
    exact hend (by rfl) (by rfl) hP hD hS dX4_hasBlock_17
  · replace hd := ite_f c1 hd
    refine lv_iload_n hx hb dX4_hasBlock_4 rfl (lv_at hl 1 rfl) ?_
    refine lv_aload_n hx hb dX4_hasBlock_5 rfl (lv_at hl 0 rfl) ?_
    refine va_get (D := (dC, dI)) (ci := 4) (v := .int v_blocks) (C := RX4) (T := TX4) (N := 9) hx hb hts inX4_hasBlock_X4 hown hK hP 0 rfl rfl 1 (by decide) (hts _ kX4_hasBlock_1) (fun _ h9 => h9) rfl dX4_hasBlock_6 ?_
    refine lv_icmp_ge (tgt := 16) hx hb dX4_hasBlock_9 (by decide) (fun c2 => ?_) (fun c2 => ?_)
    · replace hd := ite_t c2 hd
      refine lv_iconst (v := 0) hx hb dX4_hasBlock_16 (by decide) ?_
      cases hd
      exact hend (by rfl) (by rfl) hP hD hS dX4_hasBlock_17
    · replace hd := ite_f c2 hd
      refine lv_iconst (v := 1) hx hb dX4_hasBlock_12 (by decide) ?_
      refine lv_goto (tgt := 17) hx hb dX4_hasBlock_13 (by decide) ?_
      cases hd
      exact hend (by rfl) (by rfl) hP hD hS dX4_hasBlock_17
def rmX4_setting : Room := { frames := 1, cells := 0, slots := 0, locals := 21 }
theorem kX4_setting_1 : (Cond.fieldLink RX4 9 "CassetteTones$Tape" "settings" "[I") ∈ wsX4_setting := List.mem_of_getElem? (i := 1) (by decide +kernel)
theorem kX4_setting_3 : (Cond.initialized RX6) ∈ wsX4_setting := List.mem_of_getElem? (i := 3) (by decide +kernel)
theorem kX4_setting_2 : (Cond.static yX6_valueAt) ∈ wsX4_setting := List.mem_of_getElem? (i := 2) (by decide +kernel)
theorem inX4_setting_X4 : ∀ w ∈ wsX40, w ∈ wsX4_setting := by decide +kernel
theorem hp_X4_setting : yX4_setting.cls ≠ "java/lang/invoke/MethodHandle" ∧ yX4_setting.cls ≠ "java/lang/invoke/VarHandle" ∧ (parseMethodDescriptor yX4_setting.desc).map (fun d => d.parameters.length) = some 1 := by decide +kernel
theorem hv_X4_setting : yX4_setting.cls = RX4 ∧ yX4_setting.cls ≠ "java/lang/invoke/MethodHandle" ∧ yX4_setting.cls ≠ "java/lang/invoke/VarHandle" ∧ (parseMethodDescriptor yX4_setting.desc).map (fun d => d.parameters.length) = some 1 := by decide +kernel
set_option maxHeartbeats 4000000 in
set_option maxRecDepth 100000 in
theorem c_X4_setting (l : Launch) (dC : Nat → ClassId) (dI : Nat → Nat → Nat) (cI cC cT cL : ClassId) (h0 h1 h2 h3 h4 h5 h6 h7 h8 : Nat) (sz : Nat) (v_settings : (Nat → Int32)) (v_blocks : Int32) (p1 : Int32) (r : Int32) (hd : den_X4_setting v_settings p1 = some r) : Met l yX4_setting wsX4_setting rmX4_setting (va_Pc [.ref h0, .int p1] (preB sz (dC, dI) [(h0, .inr (4, [.ref h1, .int v_blocks, .ref h2, .ref h3, .ref h4, .ref h5, .ref h6, .ref h7, .ref h8])), (h1, .inl (cI, 3, .inl v_settings))] [(cI, .int), (cC, .char), (cT, .object "CassetteTones$Tape"), (cL, .long)])) (va_Qi (S := Unit) (fun v _ => v = r) (fun _ t => posB (dC, dI) [(h0, .inr (4, [.ref h1, .int v_blocks, .ref h2, .ref h3, .ref h4, .ref h5, .ref h6, .ref h7, .ref h8])), (h1, .inl (cI, 3, .inl v_settings))] [(cI, .int), (cC, .char), (cT, .object "CassetteTones$Tape"), (cL, .long)] (va_A [(h0, .inr (4, [.ref h1, .int v_blocks, .ref h2, .ref h3, .ref h4, .ref h5, .ref h6, .ref h7, .ref h8])), (h1, .inl (cI, 3, .inl v_settings))] sz) t) (va_A [(h0, .inr (4, [.ref h1, .int v_blocks, .ref h2, .ref h3, .ref h4, .ref h5, .ref h6, .ref h7, .ref h8])), (h1, .inl (cI, 3, .inl v_settings))] sz)) 0 0 (va_A [(h0, .inr (4, [.ref h1, .int v_blocks, .ref h2, .ref h3, .ref h4, .ref h5, .ref h6, .ref h7, .ref h8])), (h1, .inl (cI, 3, .inl v_settings))] sz) := by
  refine x_met_i (by decide) rfl (Nat.le_of_ble_eq_true rfl) ?_
  intro p e s m args below meth c A Q H locs ls hx hb hml hown hts hK hN hA hP hD hS hl hend
  have hown : s.vm.findClass RX4 = some m.cls := hown
  have hl : lv_has ls 2 [(0, .ref h0), (1, .int p1)] := hl
  unfold den_X4_setting at hd
  refine lv_aload_n hx hb dX4_setting_0 rfl (lv_at hl 0 rfl) ?_
  refine va_get (D := (dC, dI)) (ci := 4) (v := .ref h1) (C := RX4) (T := TX4) (N := 9) hx hb hts inX4_setting_X4 hown hK hP 0 rfl rfl 0 (by decide) (hts _ kX4_setting_1) (fun _ h9 => h9) rfl dX4_setting_1 ?_
  refine lv_iload_n hx hb dX4_setting_4 rfl (lv_at hl 1 rfl) ?_
  obtain ⟨g1, hd⟩ := gd_some hd
  have hPc : va_P (dC, dI) vwCl [(h1, .inl (cI, 3, .inl v_settings))] _ := hP.sub [1] rfl
  have hDc := hD.sub (ws' := [(h1, .inl (cI, 3, .inl v_settings))]) [1] (by decide) rfl
  have hFc := va_free (wc := [(h1, .inl (cI, 3, .inl v_settings))]) hD hS hA [1] rfl
  refine va_calli (va_runSN (As := [.ref h1, .int p1]) (rest := []) ⟨hx, hb, hml, hown, hts⟩ (c_X6_valueAt l dC dI cI cC cT cL h1 3 H.size v_settings p1 (v_settings p1.toNatClampNeg) (i_X6_valueAt (Nat.le_of_ble_eq_true rfl) g1 rfl)) ⟨(va_cnB 2 hts gX4_setting_X6_valueAt_n59 rfl rfl rfl (nxw_24 hN) (hts _ kX4_setting_3) hp_X6_valueAt ⟨Nat.le_of_ble_eq_true rfl, Nat.le_of_ble_eq_true rfl⟩), (hts _ kX4_setting_2), trivial⟩ ⟨preB_fb, fun U hU hW => preB_mk hU hW hPc hK hDc hN⟩ rfl rfl hl.1 rfl (lv_room (Nat.le_of_ble_eq_true rfl)) dX4_setting_5 ⟨Nat.zero_le _, Nat.zero_le _⟩) hS (fun q _ h => hFc q h) hFc (fun r_ u_ t H locs ht hvm hw hB hz1 hk1 hS => ?_)
  have hw : r_ = (v_settings p1.toNatClampNeg) := hw
  have hw := hw.symm
  subst hw
  obtain ⟨hP, hD⟩ := x_join (ws' := [(h0, .inr (4, [.ref h1, .int v_blocks, .ref h2, .ref h3, .ref h4, .ref h5, .ref h6, .ref h7, .ref h8])), (h1, .inl (cI, 3, .inl v_settings))]) hP hD [1] [0] rfl rfl (by decide) (by decide) hk1 hFc ht hB [0, 1] (by decide) rfl
  clear hPc hDc hFc hk1 hB ht hz1 hvm
  cases hd
  exact hend (by rfl) hP hD hS dX4_setting_8
def rmX4_hasCell : Room := { frames := 2, cells := 0, slots := 0, locals := 41 }
theorem hp_X4_hasCell : yX4_hasCell.cls ≠ "java/lang/invoke/MethodHandle" ∧ yX4_hasCell.cls ≠ "java/lang/invoke/VarHandle" ∧ (parseMethodDescriptor yX4_hasCell.desc).map (fun d => d.parameters.length) = some 1 := by decide +kernel
theorem hv_X4_hasCell : yX4_hasCell.cls = RX4 ∧ yX4_hasCell.cls ≠ "java/lang/invoke/MethodHandle" ∧ yX4_hasCell.cls ≠ "java/lang/invoke/VarHandle" ∧ (parseMethodDescriptor yX4_hasCell.desc).map (fun d => d.parameters.length) = some 1 := by decide +kernel
set_option maxHeartbeats 4000000 in
set_option maxRecDepth 100000 in
theorem c_X4_hasCell (l : Launch) (dC : Nat → ClassId) (dI : Nat → Nat → Nat) (cI cC cT cL : ClassId) (h0 h1 h2 h3 h4 h5 h6 h7 h8 : Nat) (sz : Nat) (v_blocks : Int32) (v_firsts : (Nat → Int32)) (p1 : Int32) (r : Int32) (hd : den_X4_hasCell v_blocks v_firsts p1 = some r) : Met l yX4_hasCell wsX4_hasCell rmX4_hasCell (va_Pc [.ref h0, .int p1] (preB sz (dC, dI) [(h0, .inr (4, [.ref h1, .int v_blocks, .ref h2, .ref h3, .ref h4, .ref h5, .ref h6, .ref h7, .ref h8])), (h5, .inl (cI, 17, .inl v_firsts))] [(cI, .int), (cC, .char), (cT, .object "CassetteTones$Tape"), (cL, .long)])) (va_Qi (S := Unit) (fun v _ => v = r) (fun _ t => posB (dC, dI) [(h0, .inr (4, [.ref h1, .int v_blocks, .ref h2, .ref h3, .ref h4, .ref h5, .ref h6, .ref h7, .ref h8])), (h5, .inl (cI, 17, .inl v_firsts))] [(cI, .int), (cC, .char), (cT, .object "CassetteTones$Tape"), (cL, .long)] (va_A [(h0, .inr (4, [.ref h1, .int v_blocks, .ref h2, .ref h3, .ref h4, .ref h5, .ref h6, .ref h7, .ref h8])), (h5, .inl (cI, 17, .inl v_firsts))] sz) t) (va_A [(h0, .inr (4, [.ref h1, .int v_blocks, .ref h2, .ref h3, .ref h4, .ref h5, .ref h6, .ref h7, .ref h8])), (h5, .inl (cI, 17, .inl v_firsts))] sz)) 0 0 (va_A [(h0, .inr (4, [.ref h1, .int v_blocks, .ref h2, .ref h3, .ref h4, .ref h5, .ref h6, .ref h7, .ref h8])), (h5, .inl (cI, 17, .inl v_firsts))] sz) := by
  refine x_met_z (by decide) rfl (Nat.le_of_ble_eq_true rfl) ?_
  intro p e s m args below meth c A Q H locs ls hx hb hml hown hts hK hN hA hP hD hS hl hend
  have hown : s.vm.findClass RX4 = some m.cls := hown
  have hl : lv_has ls 2 [(0, .ref h0), (1, .int p1)] := hl
  unfold den_X4_hasCell at hd
  refine lv_iload_n hx hb dX4_hasCell_0 rfl (lv_at hl 1 rfl) ?_
  refine lv_if_lt (tgt := 16) hx hb dX4_hasCell_1 (by decide) (fun c1 => ?_) (fun c1 => ?_)
  · replace hd := ite_t c1 hd
    refine lv_iconst (v := 0) hx hb dX4_hasCell_16 (by decide) ?_
    cases hd
    exact hend (by rfl) (by rfl) hP hD hS dX4_hasCell_17
  · replace hd := ite_f c1 hd
    refine lv_iload_n hx hb dX4_hasCell_4 rfl (lv_at hl 1 rfl) ?_
    refine lv_aload_n hx hb dX4_hasCell_5 rfl (lv_at hl 0 rfl) ?_
    obtain ⟨q2, hq2, hd⟩ := bnd_some hd
    have hPc : va_P (dC, dI) vwCl [(h0, .inr (4, [.ref h1, .int v_blocks, .ref h2, .ref h3, .ref h4, .ref h5, .ref h6, .ref h7, .ref h8])), (h5, .inl (cI, 17, .inl v_firsts))] _ := hP.sub [0, 1] rfl
    have hDc := hD.sub (ws' := [(h0, .inr (4, [.ref h1, .int v_blocks, .ref h2, .ref h3, .ref h4, .ref h5, .ref h6, .ref h7, .ref h8])), (h5, .inl (cI, 17, .inl v_firsts))]) [0, 1] (by decide) rfl
    have hFc := va_free (wc := [(h0, .inr (4, [.ref h1, .int v_blocks, .ref h2, .ref h3, .ref h4, .ref h5, .ref h6, .ref h7, .ref h8])), (h5, .inl (cI, 17, .inl v_firsts))]) hD hS hA [0, 1] rfl
    refine va_calli (va_runV (As := []) (rest := [.int p1]) ⟨hx, hb, hml, hown, hts⟩ (c_X4_cells l dC dI cI cC cT cL h0 h1 h2 h3 h4 h5 h6 h7 h8 H.size v_blocks v_firsts q2 hq2) (cwV 0 hts gX4_hasCell_X4_cells rfl rfl rfl hv_X4_cells ⟨Nat.le_of_ble_eq_true rfl, Nat.le_of_ble_eq_true rfl⟩) ⟨preB_fb, va_recv hK hPc (ci := 4) (q0 := 0) rfl rfl, fun U hU hW => preB_mk hU hW hPc hK hDc hN⟩ rfl rfl hl.1 rfl (lv_room (Nat.le_of_ble_eq_true rfl)) dX4_hasCell_6 ⟨Nat.zero_le _, Nat.zero_le _⟩) hS (fun q _ h => hFc q h) hFc (fun r_ u_ t H locs ht hvm hw hB hz1 hk1 hS => ?_)
    have hw : r_ = q2 := hw
    have hw := hw.symm
    subst hw
    obtain ⟨hP, hD⟩ := x_join (ws' := [(h0, .inr (4, [.ref h1, .int v_blocks, .ref h2, .ref h3, .ref h4, .ref h5, .ref h6, .ref h7, .ref h8])), (h5, .inl (cI, 17, .inl v_firsts))]) hP hD [0, 1] [] rfl rfl (by decide) (by decide) hk1 hFc ht hB [0, 1] (by decide) rfl
    clear hPc hDc hFc hk1 hB ht hz1 hvm
    refine lv_icmp_ge (tgt := 16) hx hb dX4_hasCell_9 (by decide) (fun c3 => ?_) (fun c3 => ?_)
    · replace hd := ite_t c3 hd
      refine lv_iconst (v := 0) hx hb dX4_hasCell_16 (by decide) ?_
      cases hd
      exact hend (by rfl) (by rfl) hP hD hS dX4_hasCell_17
    · replace hd := ite_f c3 hd
      refine lv_iconst (v := 1) hx hb dX4_hasCell_12 (by decide) ?_
      refine lv_goto (tgt := 17) hx hb dX4_hasCell_13 (by decide) ?_
      cases hd
      exact hend (by rfl) (by rfl) hP hD hS dX4_hasCell_17
def rmX4_errorOfBlock : Room := { frames := 1, cells := 0, slots := 0, locals := 21 }
theorem kX4_errorOfBlock_1 : (Cond.fieldLink RX4 36 "CassetteTones$Tape" "blocks" "I") ∈ wsX4_errorOfBlock := List.mem_of_getElem? (i := 1) (by decide +kernel)
theorem inX4_errorOfBlock_X4 : ∀ w ∈ wsX40, w ∈ wsX4_errorOfBlock := by decide +kernel
theorem hp_X4_errorOfBlock : yX4_errorOfBlock.cls ≠ "java/lang/invoke/MethodHandle" ∧ yX4_errorOfBlock.cls ≠ "java/lang/invoke/VarHandle" ∧ (parseMethodDescriptor yX4_errorOfBlock.desc).map (fun d => d.parameters.length) = some 3 := by decide +kernel
theorem hv_X4_errorOfBlock : yX4_errorOfBlock.cls = RX4 ∧ yX4_errorOfBlock.cls ≠ "java/lang/invoke/MethodHandle" ∧ yX4_errorOfBlock.cls ≠ "java/lang/invoke/VarHandle" ∧ (parseMethodDescriptor yX4_errorOfBlock.desc).map (fun d => d.parameters.length) = some 3 := by decide +kernel
set_option maxHeartbeats 4000000 in
set_option maxRecDepth 100000 in
theorem c_X4_errorOfBlock (l : Launch) (dC : Nat → ClassId) (dI : Nat → Nat → Nat) (cI cC cT cL : ClassId) (h0 h1 h2 h3 h4 h5 h6 h7 h8 : Nat) (sz : Nat) (v_blocks : Int32) (p1 : Int32) (p2 : Int32) (p3 : Int32) (r : Int32) (hd : den_X4_errorOfBlock v_blocks p1 p2 p3 = some r) : Met l yX4_errorOfBlock wsX4_errorOfBlock rmX4_errorOfBlock (va_Pc [.ref h0, .int p1, .int p2, .int p3] (preB sz (dC, dI) [(h0, .inr (4, [.ref h1, .int v_blocks, .ref h2, .ref h3, .ref h4, .ref h5, .ref h6, .ref h7, .ref h8]))] [(cI, .int), (cC, .char), (cT, .object "CassetteTones$Tape"), (cL, .long)])) (va_Qi (S := Unit) (fun v _ => v = r) (fun _ t => posB (dC, dI) [(h0, .inr (4, [.ref h1, .int v_blocks, .ref h2, .ref h3, .ref h4, .ref h5, .ref h6, .ref h7, .ref h8]))] [(cI, .int), (cC, .char), (cT, .object "CassetteTones$Tape"), (cL, .long)] (va_A [(h0, .inr (4, [.ref h1, .int v_blocks, .ref h2, .ref h3, .ref h4, .ref h5, .ref h6, .ref h7, .ref h8]))] sz) t) (va_A [(h0, .inr (4, [.ref h1, .int v_blocks, .ref h2, .ref h3, .ref h4, .ref h5, .ref h6, .ref h7, .ref h8]))] sz)) 0 0 (va_A [(h0, .inr (4, [.ref h1, .int v_blocks, .ref h2, .ref h3, .ref h4, .ref h5, .ref h6, .ref h7, .ref h8]))] sz) := by
  refine x_met_i (by decide) rfl (Nat.le_of_ble_eq_true rfl) ?_
  intro p e s m args below meth c A Q H locs ls hx hb hml hown hts hK hN hA hP hD hS hl hend
  have hown : s.vm.findClass RX4 = some m.cls := hown
  have hl : lv_has ls 4 [(0, .ref h0), (1, .int p1), (2, .int p2), (3, .int p3)] := hl
  unfold den_X4_errorOfBlock at hd
  refine lv_iload_n hx hb dX4_errorOfBlock_0 rfl (lv_at hl 2 rfl) ?_
  refine lv_bipush (v := -6) hx hb dX4_errorOfBlock_1 (by decide) ?_
  obtain ⟨J1, eJ1, hd⟩ := nm_ex hd
  have KJ1 : ∀ (u_ : Unit) (hd : J1 u_ = some r) (H : Heap) (locs : List Loc) (ls : Array Slot), va_P (dC, dI) vwCl [(h0, .inr (4, [.ref h1, .int v_blocks, .ref h2, .ref h3, .ref h4, .ref h5, .ref h6, .ref h7, .ref h8]))] H → va_D A [(h0, .inr (4, [.ref h1, .int v_blocks, .ref h2, .ref h3, .ref h4, .ref h5, .ref h6, .ref h7, .ref h8]))] → va_S A s.heap H locs → lv_has ls 4 [(0, .ref h0), (1, .int p1), (3, .int p3)] → W p l e rmX4_errorOfBlock s m args below meth c H locs 0 0 Q (F0 m 16 ls []) := by
    intro u_ hd H locs ls hP hD hS hl
    replace hd := jx1 eJ1 hd
    refine lv_iload_n hx hb dX4_errorOfBlock_16 rfl (lv_at hl 1 rfl) ?_
    refine lv_if_lt (tgt := 37) hx hb dX4_errorOfBlock_17 (by decide) (fun c2 => ?_) (fun c2 => ?_)
    · replace hd := ite_t c2 hd
      refine lv_bipush (v := -2) hx hb dX4_errorOfBlock_37 (by decide) ?_
      cases hd
      exact hend (by rfl) hP hD hS dX4_errorOfBlock_39
    · replace hd := ite_f c2 hd
      refine lv_iload_n hx hb dX4_errorOfBlock_20 rfl (lv_at hl 1 rfl) ?_
      refine lv_bipush (v := 99) hx hb dX4_errorOfBlock_21 (by decide) ?_
      refine lv_icmp_gt (tgt := 37) hx hb dX4_errorOfBlock_23 (by decide) (fun c3 => ?_) (fun c3 => ?_)
      · replace hd := ite_t c3 hd
        refine lv_bipush (v := -2) hx hb dX4_errorOfBlock_37 (by decide) ?_
        cases hd
        exact hend (by rfl) hP hD hS dX4_errorOfBlock_39
      · replace hd := ite_f c3 hd
        refine lv_iload_n hx hb dX4_errorOfBlock_26 rfl (lv_at hl 2 rfl) ?_
        refine lv_iconst (v := 1) hx hb dX4_errorOfBlock_27 (by decide) ?_
        refine lv_icmp_lt (tgt := 37) hx hb dX4_errorOfBlock_28 (by decide) (fun c4 => ?_) (fun c4 => ?_)
        · replace hd := ite_t c4 hd
          refine lv_bipush (v := -2) hx hb dX4_errorOfBlock_37 (by decide) ?_
          cases hd
          exact hend (by rfl) hP hD hS dX4_errorOfBlock_39
        · replace hd := ite_f c4 hd
          refine lv_iload_n hx hb dX4_errorOfBlock_31 rfl (lv_at hl 2 rfl) ?_
          refine lv_bipush (v := 7) hx hb dX4_errorOfBlock_32 (by decide) ?_
          refine lv_icmp_le (tgt := 40) hx hb dX4_errorOfBlock_34 (by decide) (fun c5 => ?_) (fun c5 => ?_)
          · replace hd := ite_t c5 hd
            refine lv_aload_n hx hb dX4_errorOfBlock_40 rfl (lv_at hl 0 rfl) ?_
            refine va_get (D := (dC, dI)) (ci := 4) (v := .int v_blocks) (C := RX4) (T := TX4) (N := 9) hx hb hts inX4_errorOfBlock_X4 hown hK hP 0 rfl rfl 1 (by decide) (hts _ kX4_errorOfBlock_1) (fun _ h9 => h9) rfl dX4_errorOfBlock_41 ?_
            refine lv_bipush (v := 16) hx hb dX4_errorOfBlock_44 (by decide) ?_
            refine lv_icmp_lt (tgt := 54) hx hb dX4_errorOfBlock_46 (by decide) (fun c6 => ?_) (fun c6 => ?_)
            · replace hd := ite_t c6 hd
              refine lv_iconst (v := 0) hx hb dX4_errorOfBlock_54 (by decide) ?_
              cases hd
              exact hend (by rfl) hP hD hS dX4_errorOfBlock_55
            · replace hd := ite_f c6 hd
              refine lv_bipush (v := -4) hx hb dX4_errorOfBlock_49 (by decide) ?_
              refine lv_goto (tgt := 55) hx hb dX4_errorOfBlock_51 (by decide) ?_
              cases hd
              exact hend (by rfl) hP hD hS dX4_errorOfBlock_55
          · replace hd := ite_f c5 hd
            refine lv_bipush (v := -2) hx hb dX4_errorOfBlock_37 (by decide) ?_
            cases hd
            exact hend (by rfl) hP hD hS dX4_errorOfBlock_39
  refine lv_icmp_eq (tgt := 16) hx hb dX4_errorOfBlock_3 (by decide) (fun c7 => ?_) (fun c7 => ?_)
  · replace hd := ite_t c7 hd
    exact KJ1 () hd _ _ _ hP hD hS (lv_sub hl [0, 1, 3] rfl)
  · replace hd := ite_f c7 hd
    refine lv_aload_n hx hb dX4_errorOfBlock_6 rfl (lv_at hl 0 rfl) ?_
    refine lv_iload_n hx hb dX4_errorOfBlock_7 rfl (lv_at hl 2 rfl) ?_
    obtain ⟨q8, hq8, hd⟩ := bnd_some hd
    have hPc : va_P (dC, dI) vwCl [(h0, .inr (4, [.ref h1, .int v_blocks, .ref h2, .ref h3, .ref h4, .ref h5, .ref h6, .ref h7, .ref h8]))] _ := hP.sub [0] rfl
    have hDc := hD.sub (ws' := [(h0, .inr (4, [.ref h1, .int v_blocks, .ref h2, .ref h3, .ref h4, .ref h5, .ref h6, .ref h7, .ref h8]))]) [0] (by decide) rfl
    have hFc := va_free (wc := [(h0, .inr (4, [.ref h1, .int v_blocks, .ref h2, .ref h3, .ref h4, .ref h5, .ref h6, .ref h7, .ref h8]))]) hD hS hA [0] rfl
    refine va_calli (va_runV (As := [.int p2]) (rest := []) ⟨hx, hb, hml, hown, hts⟩ (c_X4_hasBlock l dC dI cI cC cT cL h0 h1 h2 h3 h4 h5 h6 h7 h8 H.size v_blocks p2 q8 hq8) (cwV 1 hts gX4_errorOfBlock_X4_hasBlock rfl rfl rfl hv_X4_hasBlock ⟨Nat.le_of_ble_eq_true rfl, Nat.le_of_ble_eq_true rfl⟩) ⟨preB_fb, va_recv hK hPc (ci := 4) (q0 := 0) rfl rfl, fun U hU hW => preB_mk hU hW hPc hK hDc hN⟩ rfl rfl hl.1 rfl (lv_room (Nat.le_of_ble_eq_true rfl)) dX4_errorOfBlock_8 ⟨Nat.zero_le _, Nat.zero_le _⟩) hS (fun q _ h => hFc q h) hFc (fun r_ u_ t H locs ht hvm hw hB hz1 hk1 hS => ?_)
    have hw : r_ = q8 := hw
    have hw := hw.symm
    subst hw
    obtain ⟨hP, hD⟩ := x_join (ws' := [(h0, .inr (4, [.ref h1, .int v_blocks, .ref h2, .ref h3, .ref h4, .ref h5, .ref h6, .ref h7, .ref h8]))]) hP hD [0] [] rfl rfl (by decide) (by decide) hk1 hFc ht hB [0] (by decide) rfl
    clear hPc hDc hFc hk1 hB ht hz1 hvm
    refine lv_if_ne (tgt := 16) hx hb dX4_errorOfBlock_11 (by decide) (fun c9 => ?_) (fun c9 => ?_)
    · replace hd := ite_f c9 hd
      exact KJ1 () hd _ _ _ hP hD hS (lv_sub hl [0, 1, 3] rfl)
    · replace hd := ite_t c9 hd
      refine lv_iconst (v := -1) hx hb dX4_errorOfBlock_14 (by decide) ?_
      cases hd
      exact hend (by rfl) hP hD hS dX4_errorOfBlock_15
def rmX4_writeByte : Room := { frames := 1, cells := 0, slots := 0, locals := 22 }
theorem kX4_writeByte_1 : (Cond.fieldLink RX4 33 "CassetteTones$Tape" "written" "[I") ∈ wsX4_writeByte := List.mem_of_getElem? (i := 1) (by decide +kernel)
theorem kX4_writeByte_3 : (Cond.initialized RX6) ∈ wsX4_writeByte := List.mem_of_getElem? (i := 3) (by decide +kernel)
theorem kX4_writeByte_2 : (Cond.static yX6_setValue) ∈ wsX4_writeByte := List.mem_of_getElem? (i := 2) (by decide +kernel)
theorem inX4_writeByte_X4 : ∀ w ∈ wsX40, w ∈ wsX4_writeByte := by decide +kernel
theorem hp_X4_writeByte : yX4_writeByte.cls ≠ "java/lang/invoke/MethodHandle" ∧ yX4_writeByte.cls ≠ "java/lang/invoke/VarHandle" ∧ (parseMethodDescriptor yX4_writeByte.desc).map (fun d => d.parameters.length) = some 2 := by decide +kernel
theorem hv_X4_writeByte : yX4_writeByte.cls = RX4 ∧ yX4_writeByte.cls ≠ "java/lang/invoke/MethodHandle" ∧ yX4_writeByte.cls ≠ "java/lang/invoke/VarHandle" ∧ (parseMethodDescriptor yX4_writeByte.desc).map (fun d => d.parameters.length) = some 2 := by decide +kernel
set_option maxHeartbeats 4000000 in
set_option maxRecDepth 100000 in
theorem c_X4_writeByte (l : Launch) (dC : Nat → ClassId) (dI : Nat → Nat → Nat) (cI cC cT cL : ClassId) (h0 h1 h2 h3 h4 h5 h6 h7 h8 : Nat) (sz : Nat) (v_blocks : Int32) (v_written : (Nat → Int32)) (p1 : Int32) (p2 : Int32) (r : (Nat → Int32)) (hd : den_X4_writeByte v_written p1 p2 = some r) : Met l yX4_writeByte wsX4_writeByte rmX4_writeByte (va_Pc [.ref h0, .int p1, .int p2] (preB sz (dC, dI) [(h0, .inr (4, [.ref h1, .int v_blocks, .ref h2, .ref h3, .ref h4, .ref h5, .ref h6, .ref h7, .ref h8])), (h8, .inl (cI, 2464, .inl v_written))] [(cI, .int), (cC, .char), (cT, .object "CassetteTones$Tape"), (cL, .long)])) (va_Qv (S := Unit) (fun _ => True) (fun _ t => posB (dC, dI) [(h0, .inr (4, [.ref h1, .int v_blocks, .ref h2, .ref h3, .ref h4, .ref h5, .ref h6, .ref h7, .ref h8])), (h8, .inl (cI, 2464, .inl r))] [(cI, .int), (cC, .char), (cT, .object "CassetteTones$Tape"), (cL, .long)] (va_A [(h0, .inr (4, [.ref h1, .int v_blocks, .ref h2, .ref h3, .ref h4, .ref h5, .ref h6, .ref h7, .ref h8])), (h8, .inl (cI, 2464, .inl v_written))] sz) t) (va_A [(h0, .inr (4, [.ref h1, .int v_blocks, .ref h2, .ref h3, .ref h4, .ref h5, .ref h6, .ref h7, .ref h8])), (h8, .inl (cI, 2464, .inl v_written))] sz)) 0 0 (va_A [(h0, .inr (4, [.ref h1, .int v_blocks, .ref h2, .ref h3, .ref h4, .ref h5, .ref h6, .ref h7, .ref h8])), (h8, .inl (cI, 2464, .inl v_written))] sz) := by
  refine x_met_v (by decide) rfl (Nat.le_of_ble_eq_true rfl) ?_
  intro p e s m args below meth c A Q H locs ls hx hb hml hown hts hK hN hA hP hD hS hl hend
  have hown : s.vm.findClass RX4 = some m.cls := hown
  have hl : lv_has ls 4 [(0, .ref h0), (1, .int p1), (2, .int p2)] := hl
  unfold den_X4_writeByte at hd
  refine lv_iconst (v := 0) hx hb dX4_writeByte_0 (by decide) ?_
  refine lv_istore_n (lv' := [(3, .int (0 : Int32)), (0, .ref h0), (1, .int p1), (2, .int p2)]) hx hb dX4_writeByte_1 rfl hl (by decide) rfl (fun ls hl => ?_)
  obtain ⟨q1, hq1, hd⟩ := bnd_some hd
  have Kq1 : ∀ (H : Heap) (locs : List Loc) (ls : Array Slot), va_P (dC, dI) vwCl [(h0, .inr (4, [.ref h1, .int v_blocks, .ref h2, .ref h3, .ref h4, .ref h5, .ref h6, .ref h7, .ref h8])), (h8, .inl (cI, 2464, .inl q1))] H → va_D A [(h0, .inr (4, [.ref h1, .int v_blocks, .ref h2, .ref h3, .ref h4, .ref h5, .ref h6, .ref h7, .ref h8])), (h8, .inl (cI, 2464, .inl q1))] → va_S A s.heap H locs → lv_has ls 4 [(0, .ref h0), (1, .int p1), (2, .int p2)] → W p l e rmX4_writeByte s m args below meth c H locs 0 0 Q (F0 m 29 ls []) := by
    intro H locs ls hP hD hS hl
    refine lv_aload_n hx hb dX4_writeByte_29 rfl (lv_at hl 0 rfl) ?_
    refine va_get (D := (dC, dI)) (ci := 4) (v := .ref h8) (C := RX4) (T := TX4) (N := 9) hx hb hts inX4_writeByte_X4 hown hK hP 0 rfl rfl 8 (by decide) (hts _ kX4_writeByte_1) (fun _ h9 => h9) rfl dX4_writeByte_30 ?_
    refine lv_iload_n hx hb dX4_writeByte_33 rfl (lv_at hl 1 rfl) ?_
    refine lv_bipush (v := 8) hx hb dX4_writeByte_34 (by decide) ?_
    refine lv_iadd hx hb dX4_writeByte_36 ?_
    refine lv_iload_n hx hb dX4_writeByte_37 rfl (lv_at hl 2 rfl) ?_
    obtain ⟨q2, hq2, hd⟩ := bnd_some hd
    have hPc : va_P (dC, dI) vwCl [] _ := hP.sub [] rfl
    have hDc := hD.sub (ws' := []) [] (by decide) rfl
    have hFc := va_free (wc := []) hD hS hA [] rfl
    refine va_calli (va_runS (As := [.int p2]) (rest := [.int (p1 + (8 : Int32)), .ref h8]) ⟨hx, hb, hml, hown, hts⟩ (c_J6_bitCount_0f7a4 l dC dI cI cC cT cL H.size p2 q2 hq2) (va_cwS 1 hts gX4_writeByte_J6_bitCount_0f7a4 rfl rfl rfl hp_J6_bitCount_0f7a4 ⟨Nat.le_of_ble_eq_true rfl, Nat.le_of_ble_eq_true rfl⟩) ⟨preB_fb, fun U hU hW => preB_mk hU hW hPc hK hDc hN⟩ rfl rfl hl.1 rfl (lv_room (Nat.le_of_ble_eq_true rfl)) dX4_writeByte_38 ⟨Nat.zero_le _, Nat.zero_le _⟩) hS (fun q _ h => hFc q h) hFc (fun r_ u_ t H locs ht hvm hw hB hz1 hk1 hS => ?_)
    have hw : r_ = q2 := hw
    have hw := hw.symm
    subst hw
    obtain ⟨hP, hD⟩ := x_join (ws' := [(h0, .inr (4, [.ref h1, .int v_blocks, .ref h2, .ref h3, .ref h4, .ref h5, .ref h6, .ref h7, .ref h8])), (h8, .inl (cI, 2464, .inl q1))]) hP hD [] [0, 1] rfl rfl (by decide) (by decide) hk1 hFc ht hB [0, 1] (by decide) rfl
    clear hPc hDc hFc hk1 hB ht hz1 hvm
    refine lv_iconst (v := 1) hx hb dX4_writeByte_41 (by decide) ?_
    refine lv_iand hx hb dX4_writeByte_42 ?_
    obtain ⟨g3, hd⟩ := gd_some hd
    have hPc : va_P (dC, dI) vwCl [(h8, .inl (cI, 2464, .inl q1))] _ := hP.sub [1] rfl
    have hDc := hD.sub (ws' := [(h8, .inl (cI, 2464, .inl q1))]) [1] (by decide) rfl
    have hFc := va_free (wc := [(h8, .inl (cI, 2464, .inl q1))]) hD hS hA [1] rfl
    refine va_callv (va_runSN (As := [.ref h8, .int (p1 + (8 : Int32)), .int (q2 &&& (1 : Int32))]) (rest := []) ⟨hx, hb, hml, hown, hts⟩ (c_X6_setValue l dC dI cI cC cT cL h8 2464 H.size q1 (p1 + (8 : Int32)) (q2 &&& (1 : Int32)) (upd q1 (p1 + (8 : Int32)).toNatClampNeg (q2 &&& (1 : Int32))) (i_X6_setValue (Nat.le_of_ble_eq_true rfl) g3 rfl)) ⟨(va_cnB 3 hts gX4_writeByte_X6_setValue_n67 rfl rfl rfl (nxw_28 hN) (hts _ kX4_writeByte_3) hp_X6_setValue ⟨Nat.le_of_ble_eq_true rfl, Nat.le_of_ble_eq_true rfl⟩), (hts _ kX4_writeByte_2), trivial⟩ ⟨preB_fb, fun U hU hW => preB_mk hU hW hPc hK hDc hN⟩ rfl rfl hl.1 rfl (lv_room (Nat.le_of_ble_eq_true rfl)) dX4_writeByte_43 ⟨Nat.zero_le _, Nat.zero_le _⟩) hS (fun q _ h => hFc q h) hFc (fun u_ t H locs ht hvm hw hB hz1 hk1 hS => ?_)
    obtain ⟨hP, hD⟩ := x_join (ws' := [(h0, .inr (4, [.ref h1, .int v_blocks, .ref h2, .ref h3, .ref h4, .ref h5, .ref h6, .ref h7, .ref h8])), (h8, .inl (cI, 2464, .inl (upd q1 (p1 + (8 : Int32)).toNatClampNeg (q2 &&& (1 : Int32)))))]) hP hD [1] [0] rfl rfl (by decide) (by decide) hk1 hFc ht hB [0, 1] (by decide) rfl
    clear hPc hDc hFc hk1 hB ht hz1 hvm
    cases hd
    exact hend hP hD hS dX4_writeByte_46
  clear hd
  have KL6 : ∀ (fu : Nat) (y3_2 : Int32) (v_written_2 : (Nat → Int32)) (hd : den_X4_writeByte_L2 p1 p2 fu y3_2 v_written_2 = some q1) (H : Heap) (locs : List Loc) (ls : Array Slot), va_P (dC, dI) vwCl [(h0, .inr (4, [.ref h1, .int v_blocks, .ref h2, .ref h3, .ref h4, .ref h5, .ref h6, .ref h7, .ref h8])), (h8, .inl (cI, 2464, .inl v_written_2))] H → va_D A [(h0, .inr (4, [.ref h1, .int v_blocks, .ref h2, .ref h3, .ref h4, .ref h5, .ref h6, .ref h7, .ref h8])), (h8, .inl (cI, 2464, .inl v_written_2))] → va_S A s.heap H locs → lv_has ls 4 [(0, .ref h0), (1, .int p1), (2, .int p2), (3, .int y3_2)] → W p l e rmX4_writeByte s m args below meth c H locs 0 0 Q (F0 m 2 ls []) := by
    intro fu
    induction fu with
    | zero => intro y3_2 v_written_2 hd; exact no_some hd
    | succ fu ih =>
      intro y3_2 v_written_2 hd H locs ls hP hD hS hl
      rw [den_X4_writeByte_L2] at hd
      refine lv_iload_n hx hb dX4_writeByte_2 rfl (lv_at hl 3 rfl) ?_
      refine lv_bipush (v := 8) hx hb dX4_writeByte_3 (by decide) ?_
      refine lv_icmp_ge (tgt := 29) hx hb dX4_writeByte_5 (by decide) (fun c4 => ?_) (fun c4 => ?_)
      · replace hd := ite_t c4 hd
        cases hd
        exact Kq1 _ _ _ hP hD hS (lv_sub hl [0, 1, 2] rfl)
      · replace hd := ite_f c4 hd
        refine lv_aload_n hx hb dX4_writeByte_8 rfl (lv_at hl 0 rfl) ?_
        refine va_get (D := (dC, dI)) (ci := 4) (v := .ref h8) (C := RX4) (T := TX4) (N := 9) hx hb hts inX4_writeByte_X4 hown hK hP 0 rfl rfl 8 (by decide) (hts _ kX4_writeByte_1) (fun _ h9 => h9) rfl dX4_writeByte_9 ?_
        refine lv_iload_n hx hb dX4_writeByte_12 rfl (lv_at hl 1 rfl) ?_
        refine lv_iload_n hx hb dX4_writeByte_13 rfl (lv_at hl 3 rfl) ?_
        refine lv_iadd hx hb dX4_writeByte_14 ?_
        refine lv_iload_n hx hb dX4_writeByte_15 rfl (lv_at hl 2 rfl) ?_
        refine lv_iload_n hx hb dX4_writeByte_16 rfl (lv_at hl 3 rfl) ?_
        refine lv_iushr (v := ((p2).toUInt32 >>> ((y3_2).toUInt32 &&& Int32.toUInt32 31)).toInt32) hx hb dX4_writeByte_17 rfl ?_
        refine lv_iconst (v := 1) hx hb dX4_writeByte_18 (by decide) ?_
        refine lv_iand hx hb dX4_writeByte_19 ?_
        obtain ⟨g5, hd⟩ := gd_some hd
        have hPc : va_P (dC, dI) vwCl [(h8, .inl (cI, 2464, .inl v_written_2))] _ := hP.sub [1] rfl
        have hDc := hD.sub (ws' := [(h8, .inl (cI, 2464, .inl v_written_2))]) [1] (by decide) rfl
        have hFc := va_free (wc := [(h8, .inl (cI, 2464, .inl v_written_2))]) hD hS hA [1] rfl
        refine va_callv (va_runSN (As := [.ref h8, .int (p1 + y3_2), .int ((((p2).toUInt32 >>> ((y3_2).toUInt32 &&& Int32.toUInt32 31)).toInt32) &&& (1 : Int32))]) (rest := []) ⟨hx, hb, hml, hown, hts⟩ (c_X6_setValue l dC dI cI cC cT cL h8 2464 H.size v_written_2 (p1 + y3_2) ((((p2).toUInt32 >>> ((y3_2).toUInt32 &&& Int32.toUInt32 31)).toInt32) &&& (1 : Int32)) (upd v_written_2 (p1 + y3_2).toNatClampNeg ((((p2).toUInt32 >>> ((y3_2).toUInt32 &&& Int32.toUInt32 31)).toInt32) &&& (1 : Int32))) (i_X6_setValue (Nat.le_of_ble_eq_true rfl) g5 rfl)) ⟨(va_cnB 3 hts gX4_writeByte_X6_setValue_n67 rfl rfl rfl (nxw_28 hN) (hts _ kX4_writeByte_3) hp_X6_setValue ⟨Nat.le_of_ble_eq_true rfl, Nat.le_of_ble_eq_true rfl⟩), (hts _ kX4_writeByte_2), trivial⟩ ⟨preB_fb, fun U hU hW => preB_mk hU hW hPc hK hDc hN⟩ rfl rfl hl.1 rfl (lv_room (Nat.le_of_ble_eq_true rfl)) dX4_writeByte_20 ⟨Nat.zero_le _, Nat.zero_le _⟩) hS (fun q _ h => hFc q h) hFc (fun u_ t H locs ht hvm hw hB hz1 hk1 hS => ?_)
        obtain ⟨hP, hD⟩ := x_join (ws' := [(h0, .inr (4, [.ref h1, .int v_blocks, .ref h2, .ref h3, .ref h4, .ref h5, .ref h6, .ref h7, .ref h8])), (h8, .inl (cI, 2464, .inl (upd v_written_2 (p1 + y3_2).toNatClampNeg ((((p2).toUInt32 >>> ((y3_2).toUInt32 &&& Int32.toUInt32 31)).toInt32) &&& (1 : Int32)))))]) hP hD [1] [0] rfl rfl (by decide) (by decide) hk1 hFc ht hB [0, 1] (by decide) rfl
        clear hPc hDc hFc hk1 hB ht hz1 hvm
        refine lv_iinc (v := (y3_2 + (1 : Int32))) (lv' := [(3, .int (y3_2 + (1 : Int32))), (0, .ref h0), (1, .int p1), (2, .int p2)]) hx hb dX4_writeByte_23 hl (k := 3) rfl (by first | rfl | decide) (by decide) rfl (fun ls hl => ?_)
        refine lv_goto (tgt := 2) hx hb dX4_writeByte_26 (by decide) ?_
        exact ih (y3_2 + (1 : Int32)) (upd v_written_2 (p1 + y3_2).toNatClampNeg ((((p2).toUInt32 >>> ((y3_2).toUInt32 &&& Int32.toUInt32 31)).toInt32) &&& (1 : Int32))) hd _ _ _ hP hD hS (lv_sub hl [1, 2, 3, 0] rfl)
  exact KL6 FU (0 : Int32) v_written hq1 _ _ _ hP hD hS (lv_sub hl [1, 2, 3, 0] rfl)
def rmX4_writeTelling : Room := { frames := 2, cells := 0, slots := 0, locals := 45 }
theorem hp_X4_writeTelling : yX4_writeTelling.cls ≠ "java/lang/invoke/MethodHandle" ∧ yX4_writeTelling.cls ≠ "java/lang/invoke/VarHandle" ∧ (parseMethodDescriptor yX4_writeTelling.desc).map (fun d => d.parameters.length) = some 3 := by decide +kernel
theorem hv_X4_writeTelling : yX4_writeTelling.cls = RX4 ∧ yX4_writeTelling.cls ≠ "java/lang/invoke/MethodHandle" ∧ yX4_writeTelling.cls ≠ "java/lang/invoke/VarHandle" ∧ (parseMethodDescriptor yX4_writeTelling.desc).map (fun d => d.parameters.length) = some 3 := by decide +kernel
set_option maxHeartbeats 4000000 in
set_option maxRecDepth 100000 in
theorem c_X4_writeTelling (l : Launch) (dC : Nat → ClassId) (dI : Nat → Nat → Nat) (cI cC cT cL : ClassId) (h0 h1 h2 h3 h4 h5 h6 h7 h8 : Nat) (sz : Nat) (v_blocks : Int32) (v_written : (Nat → Int32)) (p1 : Int32) (p2 : Int32) (p3 : Int64) (r : (Nat → Int32)) (hd : den_X4_writeTelling v_written p1 p2 p3 = some r) : Met l yX4_writeTelling wsX4_writeTelling rmX4_writeTelling (va_Pc [.ref h0, .int p1, .int p2, .long p3] (preB sz (dC, dI) [(h0, .inr (4, [.ref h1, .int v_blocks, .ref h2, .ref h3, .ref h4, .ref h5, .ref h6, .ref h7, .ref h8])), (h8, .inl (cI, 2464, .inl v_written))] [(cI, .int), (cC, .char), (cT, .object "CassetteTones$Tape"), (cL, .long)])) (va_Qv (S := Unit) (fun _ => True) (fun _ t => posB (dC, dI) [(h0, .inr (4, [.ref h1, .int v_blocks, .ref h2, .ref h3, .ref h4, .ref h5, .ref h6, .ref h7, .ref h8])), (h8, .inl (cI, 2464, .inl r))] [(cI, .int), (cC, .char), (cT, .object "CassetteTones$Tape"), (cL, .long)] (va_A [(h0, .inr (4, [.ref h1, .int v_blocks, .ref h2, .ref h3, .ref h4, .ref h5, .ref h6, .ref h7, .ref h8])), (h8, .inl (cI, 2464, .inl v_written))] sz) t) (va_A [(h0, .inr (4, [.ref h1, .int v_blocks, .ref h2, .ref h3, .ref h4, .ref h5, .ref h6, .ref h7, .ref h8])), (h8, .inl (cI, 2464, .inl v_written))] sz)) 0 0 (va_A [(h0, .inr (4, [.ref h1, .int v_blocks, .ref h2, .ref h3, .ref h4, .ref h5, .ref h6, .ref h7, .ref h8])), (h8, .inl (cI, 2464, .inl v_written))] sz) := by
  refine x_met_v (by decide) rfl (Nat.le_of_ble_eq_true rfl) ?_
  intro p e s m args below meth c A Q H locs ls hx hb hml hown hts hK hN hA hP hD hS hl hend
  have hown : s.vm.findClass RX4 = some m.cls := hown
  have hl : lv_has ls 8 [(0, .ref h0), (1, .int p1), (2, .int p2), (3, .long p3)] := hl
  unfold den_X4_writeTelling at hd
  refine lv_iconst (v := 0) hx hb dX4_writeTelling_0 (by decide) ?_
  refine lv_istore (lv' := [(5, .int (0 : Int32)), (0, .ref h0), (1, .int p1), (2, .int p2), (3, .long p3)]) hx hb dX4_writeTelling_1 hl (by decide) rfl (fun ls hl => ?_)
  refine lv_iconst (v := 0) hx hb dX4_writeTelling_3 (by decide) ?_
  refine lv_istore (lv' := [(6, .int (0 : Int32)), (5, .int (0 : Int32)), (0, .ref h0), (1, .int p1), (2, .int p2), (3, .long p3)]) hx hb dX4_writeTelling_4 hl (by decide) rfl (fun ls hl => ?_)
  obtain ⟨q1, hq1, hd⟩ := bnd_some hd
  have Kq1 : ∀ (H : Heap) (locs : List Loc) (ls : Array Slot), va_P (dC, dI) vwCl [(h0, .inr (4, [.ref h1, .int v_blocks, .ref h2, .ref h3, .ref h4, .ref h5, .ref h6, .ref h7, .ref h8])), (h8, .inl (cI, 2464, .inl q1.2))] H → va_D A [(h0, .inr (4, [.ref h1, .int v_blocks, .ref h2, .ref h3, .ref h4, .ref h5, .ref h6, .ref h7, .ref h8])), (h8, .inl (cI, 2464, .inl q1.2))] → va_S A s.heap H locs → lv_has ls 8 [(0, .ref h0), (1, .int p1), (2, .int p2), (5, .int q1.1)] → W p l e rmX4_writeTelling s m args below meth c H locs 0 0 Q (F0 m 52 ls []) := by
    intro H locs ls hP hD hS hl
    refine lv_aload_n hx hb dX4_writeTelling_52 rfl (lv_at hl 0 rfl) ?_
    refine lv_iload_n hx hb dX4_writeTelling_53 rfl (lv_at hl 1 rfl) ?_
    refine lv_iload_n hx hb dX4_writeTelling_54 rfl (lv_at hl 2 rfl) ?_
    refine lv_bipush (v := 9) hx hb dX4_writeTelling_55 (by decide) ?_
    refine lv_imul hx hb dX4_writeTelling_57 ?_
    refine lv_iadd hx hb dX4_writeTelling_58 ?_
    refine lv_iload hx hb dX4_writeTelling_59 (lv_at hl 3 rfl) ?_
    refine lv_sipush (v := 255) hx hb dX4_writeTelling_61 (by decide) ?_
    refine lv_iand hx hb dX4_writeTelling_64 ?_
    obtain ⟨q2, hq2, hd⟩ := bnd_some hd
    have hPc : va_P (dC, dI) vwCl [(h0, .inr (4, [.ref h1, .int v_blocks, .ref h2, .ref h3, .ref h4, .ref h5, .ref h6, .ref h7, .ref h8])), (h8, .inl (cI, 2464, .inl q1.2))] _ := hP.sub [0, 1] rfl
    have hDc := hD.sub (ws' := [(h0, .inr (4, [.ref h1, .int v_blocks, .ref h2, .ref h3, .ref h4, .ref h5, .ref h6, .ref h7, .ref h8])), (h8, .inl (cI, 2464, .inl q1.2))]) [0, 1] (by decide) rfl
    have hFc := va_free (wc := [(h0, .inr (4, [.ref h1, .int v_blocks, .ref h2, .ref h3, .ref h4, .ref h5, .ref h6, .ref h7, .ref h8])), (h8, .inl (cI, 2464, .inl q1.2))]) hD hS hA [0, 1] rfl
    refine va_callv (va_runV (As := [.int (p1 + (p2 * (9 : Int32))), .int (q1.1 &&& (255 : Int32))]) (rest := []) ⟨hx, hb, hml, hown, hts⟩ (c_X4_writeByte l dC dI cI cC cT cL h0 h1 h2 h3 h4 h5 h6 h7 h8 H.size v_blocks q1.2 (p1 + (p2 * (9 : Int32))) (q1.1 &&& (255 : Int32)) q2 hq2) (cwV 2 hts gX4_writeTelling_X4_writeByte rfl rfl rfl hv_X4_writeByte ⟨Nat.le_of_ble_eq_true rfl, Nat.le_of_ble_eq_true rfl⟩) ⟨preB_fb, va_recv hK hPc (ci := 4) (q0 := 0) rfl rfl, fun U hU hW => preB_mk hU hW hPc hK hDc hN⟩ rfl rfl hl.1 rfl (lv_room (Nat.le_of_ble_eq_true rfl)) dX4_writeTelling_65 ⟨Nat.zero_le _, Nat.zero_le _⟩) hS (fun q _ h => hFc q h) hFc (fun u_ t H locs ht hvm hw hB hz1 hk1 hS => ?_)
    obtain ⟨hP, hD⟩ := x_join (ws' := [(h0, .inr (4, [.ref h1, .int v_blocks, .ref h2, .ref h3, .ref h4, .ref h5, .ref h6, .ref h7, .ref h8])), (h8, .inl (cI, 2464, .inl q2))]) hP hD [0, 1] [] rfl rfl (by decide) (by decide) hk1 hFc ht hB [0, 1] (by decide) rfl
    clear hPc hDc hFc hk1 hB ht hz1 hvm
    cases hd
    exact hend hP hD hS dX4_writeTelling_68
  clear hd
  have KL6 : ∀ (fu : Nat) (y5_6 : Int32) (y6_6 : Int32) (v_written_6 : (Nat → Int32)) (hd : den_X4_writeTelling_L6 p1 p2 p3 fu y5_6 y6_6 v_written_6 = some q1) (H : Heap) (locs : List Loc) (ls : Array Slot), va_P (dC, dI) vwCl [(h0, .inr (4, [.ref h1, .int v_blocks, .ref h2, .ref h3, .ref h4, .ref h5, .ref h6, .ref h7, .ref h8])), (h8, .inl (cI, 2464, .inl v_written_6))] H → va_D A [(h0, .inr (4, [.ref h1, .int v_blocks, .ref h2, .ref h3, .ref h4, .ref h5, .ref h6, .ref h7, .ref h8])), (h8, .inl (cI, 2464, .inl v_written_6))] → va_S A s.heap H locs → lv_has ls 8 [(0, .ref h0), (1, .int p1), (2, .int p2), (3, .long p3), (5, .int y5_6), (6, .int y6_6)] → W p l e rmX4_writeTelling s m args below meth c H locs 0 0 Q (F0 m 6 ls []) := by
    intro fu
    induction fu with
    | zero => intro y5_6 y6_6 v_written_6 hd; exact no_some hd
    | succ fu ih =>
      intro y5_6 y6_6 v_written_6 hd H locs ls hP hD hS hl
      rw [den_X4_writeTelling_L6] at hd
      refine lv_iload hx hb dX4_writeTelling_6 (lv_at hl 5 rfl) ?_
      refine lv_iload_n hx hb dX4_writeTelling_8 rfl (lv_at hl 2 rfl) ?_
      refine lv_icmp_ge (tgt := 52) hx hb dX4_writeTelling_9 (by decide) (fun c3 => ?_) (fun c3 => ?_)
      · replace hd := ite_t c3 hd
        cases hd
        exact Kq1 _ _ _ hP hD hS (lv_sub hl [0, 1, 2, 4] rfl)
      · replace hd := ite_f c3 hd
        refine lv_lload_n hx hb dX4_writeTelling_12 rfl (lv_at hl 3 rfl) ?_
        refine lv_iload hx hb dX4_writeTelling_13 (lv_at hl 5 rfl) ?_
        refine lv_bipush (v := 8) hx hb dX4_writeTelling_15 (by decide) ?_
        refine lv_imul hx hb dX4_writeTelling_17 ?_
        refine lv_lushr (v := ((p3).toUInt64 >>> (((y6_6 * (8 : Int32))).toInt64.toUInt64 &&& Int64.toUInt64 63)).toInt64) hx hb dX4_writeTelling_18 rfl ?_
        refine lv_l2i (v := ((((p3).toUInt64 >>> (((y6_6 * (8 : Int32))).toInt64.toUInt64 &&& Int64.toUInt64 63)).toInt64)).toInt32) hx hb dX4_writeTelling_19 rfl ?_
        refine lv_sipush (v := 255) hx hb dX4_writeTelling_20 (by decide) ?_
        refine lv_iand hx hb dX4_writeTelling_23 ?_
        refine lv_topi (fun x4 ex4 => ?_)
        replace hd := nm_some ex4 hd
        refine lv_istore (lv' := [(7, .int x4), (0, .ref h0), (1, .int p1), (2, .int p2), (3, .long p3), (5, .int y5_6), (6, .int y6_6)]) hx hb dX4_writeTelling_24 hl (by decide) rfl (fun ls hl => ?_)
        refine lv_iload hx hb dX4_writeTelling_26 (lv_at hl 5 rfl) ?_
        refine lv_iload hx hb dX4_writeTelling_28 (lv_at hl 0 rfl) ?_
        refine lv_iadd hx hb dX4_writeTelling_30 ?_
        refine lv_istore (lv' := [(5, .int (y5_6 + x4)), (7, .int x4), (0, .ref h0), (1, .int p1), (2, .int p2), (3, .long p3), (6, .int y6_6)]) hx hb dX4_writeTelling_31 hl (by decide) rfl (fun ls hl => ?_)
        refine lv_aload_n hx hb dX4_writeTelling_33 rfl (lv_at hl 2 rfl) ?_
        refine lv_iload_n hx hb dX4_writeTelling_34 rfl (lv_at hl 3 rfl) ?_
        refine lv_iload hx hb dX4_writeTelling_35 (lv_at hl 6 rfl) ?_
        refine lv_bipush (v := 9) hx hb dX4_writeTelling_37 (by decide) ?_
        refine lv_imul hx hb dX4_writeTelling_39 ?_
        refine lv_iadd hx hb dX4_writeTelling_40 ?_
        refine lv_iload hx hb dX4_writeTelling_41 (lv_at hl 1 rfl) ?_
        obtain ⟨q5, hq5, hd⟩ := bnd_some hd
        have hPc : va_P (dC, dI) vwCl [(h0, .inr (4, [.ref h1, .int v_blocks, .ref h2, .ref h3, .ref h4, .ref h5, .ref h6, .ref h7, .ref h8])), (h8, .inl (cI, 2464, .inl v_written_6))] _ := hP.sub [0, 1] rfl
        have hDc := hD.sub (ws' := [(h0, .inr (4, [.ref h1, .int v_blocks, .ref h2, .ref h3, .ref h4, .ref h5, .ref h6, .ref h7, .ref h8])), (h8, .inl (cI, 2464, .inl v_written_6))]) [0, 1] (by decide) rfl
        have hFc := va_free (wc := [(h0, .inr (4, [.ref h1, .int v_blocks, .ref h2, .ref h3, .ref h4, .ref h5, .ref h6, .ref h7, .ref h8])), (h8, .inl (cI, 2464, .inl v_written_6))]) hD hS hA [0, 1] rfl
        refine va_callv (va_runV (As := [.int (p1 + (y6_6 * (9 : Int32))), .int x4]) (rest := []) ⟨hx, hb, hml, hown, hts⟩ (c_X4_writeByte l dC dI cI cC cT cL h0 h1 h2 h3 h4 h5 h6 h7 h8 H.size v_blocks v_written_6 (p1 + (y6_6 * (9 : Int32))) x4 q5 hq5) (cwV 2 hts gX4_writeTelling_X4_writeByte rfl rfl rfl hv_X4_writeByte ⟨Nat.le_of_ble_eq_true rfl, Nat.le_of_ble_eq_true rfl⟩) ⟨preB_fb, va_recv hK hPc (ci := 4) (q0 := 0) rfl rfl, fun U hU hW => preB_mk hU hW hPc hK hDc hN⟩ rfl rfl hl.1 rfl (lv_room (Nat.le_of_ble_eq_true rfl)) dX4_writeTelling_43 ⟨Nat.zero_le _, Nat.zero_le _⟩) hS (fun q _ h => hFc q h) hFc (fun u_ t H locs ht hvm hw hB hz1 hk1 hS => ?_)
        obtain ⟨hP, hD⟩ := x_join (ws' := [(h0, .inr (4, [.ref h1, .int v_blocks, .ref h2, .ref h3, .ref h4, .ref h5, .ref h6, .ref h7, .ref h8])), (h8, .inl (cI, 2464, .inl q5))]) hP hD [0, 1] [] rfl rfl (by decide) (by decide) hk1 hFc ht hB [0, 1] (by decide) rfl
        clear hPc hDc hFc hk1 hB ht hz1 hvm
        refine lv_iinc (v := (y6_6 + (1 : Int32))) (lv' := [(6, .int (y6_6 + (1 : Int32))), (5, .int (y5_6 + x4)), (7, .int x4), (0, .ref h0), (1, .int p1), (2, .int p2), (3, .long p3)]) hx hb dX4_writeTelling_46 hl (k := 6) rfl (by first | rfl | decide) (by decide) rfl (fun ls hl => ?_)
        refine lv_goto (tgt := 6) hx hb dX4_writeTelling_49 (by decide) ?_
        exact ih (y5_6 + x4) (y6_6 + (1 : Int32)) q5 hd _ _ _ hP hD hS (lv_sub hl [3, 4, 5, 6, 1, 0] rfl)
  exact KL6 FU (0 : Int32) (0 : Int32) v_written hq1 _ _ _ hP hD hS (lv_sub hl [2, 3, 4, 5, 1, 0] rfl)
def rmX4_appendBlock : Room := { frames := 3, cells := 0, slots := 0, locals := 72 }
theorem kX4_appendBlock_1 : (Cond.fieldLink RX4 36 "CassetteTones$Tape" "blocks" "I") ∈ wsX4_appendBlock := List.mem_of_getElem? (i := 1) (by decide +kernel)
theorem kX4_appendBlock_2 : (Cond.fieldLink RX4 15 "CassetteTones$Tape" "names" "[I") ∈ wsX4_appendBlock := List.mem_of_getElem? (i := 2) (by decide +kernel)
theorem kX4_appendBlock_9 : (Cond.initialized RX6) ∈ wsX4_appendBlock := List.mem_of_getElem? (i := 9) (by decide +kernel)
theorem kX4_appendBlock_8 : (Cond.static yX6_setValue) ∈ wsX4_appendBlock := List.mem_of_getElem? (i := 8) (by decide +kernel)
theorem kX4_appendBlock_3 : (Cond.fieldLink RX4 18 "CassetteTones$Tape" "unders" "[I") ∈ wsX4_appendBlock := List.mem_of_getElem? (i := 3) (by decide +kernel)
theorem kX4_appendBlock_4 : (Cond.fieldLink RX4 21 "CassetteTones$Tape" "manys" "[I") ∈ wsX4_appendBlock := List.mem_of_getElem? (i := 4) (by decide +kernel)
theorem kX4_appendBlock_5 : (Cond.fieldLink RX4 27 "CassetteTones$Tape" "volumes" "[I") ∈ wsX4_appendBlock := List.mem_of_getElem? (i := 5) (by decide +kernel)
theorem kX4_appendBlock_6 : (Cond.fieldLink RX4 30 "CassetteTones$Tape" "bad" "[I") ∈ wsX4_appendBlock := List.mem_of_getElem? (i := 6) (by decide +kernel)
theorem kX4_appendBlock_7 : (Cond.fieldLink RX4 24 "CassetteTones$Tape" "firsts" "[I") ∈ wsX4_appendBlock := List.mem_of_getElem? (i := 7) (by decide +kernel)
theorem inX4_appendBlock_X4 : ∀ w ∈ wsX40, w ∈ wsX4_appendBlock := by decide +kernel
theorem hp_X4_appendBlock : yX4_appendBlock.cls ≠ "java/lang/invoke/MethodHandle" ∧ yX4_appendBlock.cls ≠ "java/lang/invoke/VarHandle" ∧ (parseMethodDescriptor yX4_appendBlock.desc).map (fun d => d.parameters.length) = some 4 := by decide +kernel
theorem hv_X4_appendBlock : yX4_appendBlock.cls = RX4 ∧ yX4_appendBlock.cls ≠ "java/lang/invoke/MethodHandle" ∧ yX4_appendBlock.cls ≠ "java/lang/invoke/VarHandle" ∧ (parseMethodDescriptor yX4_appendBlock.desc).map (fun d => d.parameters.length) = some 4 := by decide +kernel
set_option maxHeartbeats 4000000 in
set_option maxRecDepth 100000 in
theorem c_X4_appendBlock (l : Launch) (dC : Nat → ClassId) (dI : Nat → Nat → Nat) (cI cC cT cL : ClassId) (h0 h1 h2 h3 h4 h5 h6 h7 h8 : Nat) (sz : Nat) (v_settings : (Nat → Int32)) (v_blocks : Int32) (v_names : (Nat → Int32)) (v_unders : (Nat → Int32)) (v_manys : (Nat → Int32)) (v_firsts : (Nat → Int32)) (v_volumes : (Nat → Int32)) (v_bad : (Nat → Int32)) (v_written : (Nat → Int32)) (p1 : Int32) (p2 : Int32) (p3 : Int32) (p4 : Int64) (r : (Int32 × Int32 × (Nat → Int32) × (Nat → Int32) × (Nat → Int32) × (Nat → Int32) × (Nat → Int32) × (Nat → Int32) × (Nat → Int32))) (hd : den_X4_appendBlock v_settings v_blocks v_names v_unders v_manys v_firsts v_volumes v_bad v_written p1 p2 p3 p4 = some r) : Met l yX4_appendBlock wsX4_appendBlock rmX4_appendBlock (va_Pc [.ref h0, .int p1, .int p2, .int p3, .long p4] (preB sz (dC, dI) [(h0, .inr (4, [.ref h1, .int v_blocks, .ref h2, .ref h3, .ref h4, .ref h5, .ref h6, .ref h7, .ref h8])), (h1, .inl (cI, 3, .inl v_settings)), (h2, .inl (cI, 16, .inl v_names)), (h3, .inl (cI, 16, .inl v_unders)), (h4, .inl (cI, 16, .inl v_manys)), (h5, .inl (cI, 17, .inl v_firsts)), (h6, .inl (cI, 2464, .inl v_volumes)), (h7, .inl (cI, 2464, .inl v_bad)), (h8, .inl (cI, 2464, .inl v_written))] [(cI, .int), (cC, .char), (cT, .object "CassetteTones$Tape"), (cL, .long)])) (va_Qi (S := Unit) (fun v _ => v = r.1) (fun _ t => posB (dC, dI) [(h0, .inr (4, [.ref h1, .int r.2.1, .ref h2, .ref h3, .ref h4, .ref h5, .ref h6, .ref h7, .ref h8])), (h1, .inl (cI, 3, .inl v_settings)), (h2, .inl (cI, 16, .inl r.2.2.1)), (h3, .inl (cI, 16, .inl r.2.2.2.1)), (h4, .inl (cI, 16, .inl r.2.2.2.2.1)), (h5, .inl (cI, 17, .inl r.2.2.2.2.2.1)), (h6, .inl (cI, 2464, .inl r.2.2.2.2.2.2.1)), (h7, .inl (cI, 2464, .inl r.2.2.2.2.2.2.2.1)), (h8, .inl (cI, 2464, .inl r.2.2.2.2.2.2.2.2))] [(cI, .int), (cC, .char), (cT, .object "CassetteTones$Tape"), (cL, .long)] (va_A [(h0, .inr (4, [.ref h1, .int v_blocks, .ref h2, .ref h3, .ref h4, .ref h5, .ref h6, .ref h7, .ref h8])), (h1, .inl (cI, 3, .inl v_settings)), (h2, .inl (cI, 16, .inl v_names)), (h3, .inl (cI, 16, .inl v_unders)), (h4, .inl (cI, 16, .inl v_manys)), (h5, .inl (cI, 17, .inl v_firsts)), (h6, .inl (cI, 2464, .inl v_volumes)), (h7, .inl (cI, 2464, .inl v_bad)), (h8, .inl (cI, 2464, .inl v_written))] sz) t) (va_A [(h0, .inr (4, [.ref h1, .int v_blocks, .ref h2, .ref h3, .ref h4, .ref h5, .ref h6, .ref h7, .ref h8])), (h1, .inl (cI, 3, .inl v_settings)), (h2, .inl (cI, 16, .inl v_names)), (h3, .inl (cI, 16, .inl v_unders)), (h4, .inl (cI, 16, .inl v_manys)), (h5, .inl (cI, 17, .inl v_firsts)), (h6, .inl (cI, 2464, .inl v_volumes)), (h7, .inl (cI, 2464, .inl v_bad)), (h8, .inl (cI, 2464, .inl v_written))] sz)) 0 0 (va_A [(h0, .inr (4, [.ref h1, .int v_blocks, .ref h2, .ref h3, .ref h4, .ref h5, .ref h6, .ref h7, .ref h8])), (h1, .inl (cI, 3, .inl v_settings)), (h2, .inl (cI, 16, .inl v_names)), (h3, .inl (cI, 16, .inl v_unders)), (h4, .inl (cI, 16, .inl v_manys)), (h5, .inl (cI, 17, .inl v_firsts)), (h6, .inl (cI, 2464, .inl v_volumes)), (h7, .inl (cI, 2464, .inl v_bad)), (h8, .inl (cI, 2464, .inl v_written))] sz) := by
  refine x_met_i (by decide) rfl (Nat.le_of_ble_eq_true rfl) ?_
  intro p e s m args below meth c A Q H locs ls hx hb hml hown hts hK hN hA hP hD hS hl hend
  have hown : s.vm.findClass RX4 = some m.cls := hown
  have hl : lv_has ls 11 [(0, .ref h0), (1, .int p1), (2, .int p2), (3, .int p3), (4, .long p4)] := hl
  unfold den_X4_appendBlock at hd
  refine lv_aload_n hx hb dX4_appendBlock_0 rfl (lv_at hl 0 rfl) ?_
  refine va_get (D := (dC, dI)) (ci := 4) (v := .int v_blocks) (C := RX4) (T := TX4) (N := 9) hx hb hts inX4_appendBlock_X4 hown hK hP 0 rfl rfl 1 (by decide) (hts _ kX4_appendBlock_1) (fun _ h9 => h9) rfl dX4_appendBlock_1 ?_
  refine lv_istore (lv' := [(6, .int v_blocks), (0, .ref h0), (1, .int p1), (2, .int p2), (3, .int p3), (4, .long p4)]) hx hb dX4_appendBlock_4 hl (by decide) rfl (fun ls hl => ?_)
  refine lv_aload_n hx hb dX4_appendBlock_6 rfl (lv_at hl 1 rfl) ?_
  refine va_get (D := (dC, dI)) (ci := 4) (v := .ref h2) (C := RX4) (T := TX4) (N := 9) hx hb hts inX4_appendBlock_X4 hown hK hP 0 rfl rfl 2 (by decide) (hts _ kX4_appendBlock_2) (fun _ h9 => h9) rfl dX4_appendBlock_7 ?_
  refine lv_iload hx hb dX4_appendBlock_10 (lv_at hl 0 rfl) ?_
  refine lv_iload_n hx hb dX4_appendBlock_12 rfl (lv_at hl 2 rfl) ?_
  obtain ⟨g1, hd⟩ := gd_some hd
  have hPc : va_P (dC, dI) vwCl [(h2, .inl (cI, 16, .inl v_names))] _ := hP.sub [2] rfl
  have hDc := hD.sub (ws' := [(h2, .inl (cI, 16, .inl v_names))]) [2] (by decide) rfl
  have hFc := va_free (wc := [(h2, .inl (cI, 16, .inl v_names))]) hD hS hA [2] rfl
  refine va_callv (va_runSN (As := [.ref h2, .int v_blocks, .int p1]) (rest := []) ⟨hx, hb, hml, hown, hts⟩ (c_X6_setValue l dC dI cI cC cT cL h2 16 H.size v_names v_blocks p1 (upd v_names v_blocks.toNatClampNeg p1) (i_X6_setValue (Nat.le_of_ble_eq_true rfl) g1 rfl)) ⟨(va_cnB 3 hts gX4_appendBlock_X6_setValue_n67 rfl rfl rfl (nxw_28 hN) (hts _ kX4_appendBlock_9) hp_X6_setValue ⟨Nat.le_of_ble_eq_true rfl, Nat.le_of_ble_eq_true rfl⟩), (hts _ kX4_appendBlock_8), trivial⟩ ⟨preB_fb, fun U hU hW => preB_mk hU hW hPc hK hDc hN⟩ rfl rfl hl.1 rfl (lv_room (Nat.le_of_ble_eq_true rfl)) dX4_appendBlock_13 ⟨Nat.zero_le _, Nat.zero_le _⟩) hS (fun q _ h => hFc q h) hFc (fun u_ t H locs ht hvm hw hB hz1 hk1 hS => ?_)
  obtain ⟨hP, hD⟩ := x_join (ws' := [(h0, .inr (4, [.ref h1, .int v_blocks, .ref h2, .ref h3, .ref h4, .ref h5, .ref h6, .ref h7, .ref h8])), (h1, .inl (cI, 3, .inl v_settings)), (h2, .inl (cI, 16, .inl (upd v_names v_blocks.toNatClampNeg p1))), (h3, .inl (cI, 16, .inl v_unders)), (h4, .inl (cI, 16, .inl v_manys)), (h5, .inl (cI, 17, .inl v_firsts)), (h6, .inl (cI, 2464, .inl v_volumes)), (h7, .inl (cI, 2464, .inl v_bad)), (h8, .inl (cI, 2464, .inl v_written))]) hP hD [2] [0, 1, 3, 4, 5, 6, 7, 8] rfl rfl (by decide) (by decide) hk1 hFc ht hB [0, 1, 8, 2, 3, 4, 5, 6, 7] (by decide) rfl
  clear hPc hDc hFc hk1 hB ht hz1 hvm
  refine lv_aload_n hx hb dX4_appendBlock_16 rfl (lv_at hl 1 rfl) ?_
  refine va_get (D := (dC, dI)) (ci := 4) (v := .ref h3) (C := RX4) (T := TX4) (N := 9) hx hb hts inX4_appendBlock_X4 hown hK hP 0 rfl rfl 3 (by decide) (hts _ kX4_appendBlock_3) (fun _ h9 => h9) rfl dX4_appendBlock_17 ?_
  refine lv_iload hx hb dX4_appendBlock_20 (lv_at hl 0 rfl) ?_
  refine lv_iload_n hx hb dX4_appendBlock_22 rfl (lv_at hl 3 rfl) ?_
  obtain ⟨g2, hd⟩ := gd_some hd
  have hPc : va_P (dC, dI) vwCl [(h3, .inl (cI, 16, .inl v_unders))] _ := hP.sub [3] rfl
  have hDc := hD.sub (ws' := [(h3, .inl (cI, 16, .inl v_unders))]) [3] (by decide) rfl
  have hFc := va_free (wc := [(h3, .inl (cI, 16, .inl v_unders))]) hD hS hA [3] rfl
  refine va_callv (va_runSN (As := [.ref h3, .int v_blocks, .int p2]) (rest := []) ⟨hx, hb, hml, hown, hts⟩ (c_X6_setValue l dC dI cI cC cT cL h3 16 H.size v_unders v_blocks p2 (upd v_unders v_blocks.toNatClampNeg p2) (i_X6_setValue (Nat.le_of_ble_eq_true rfl) g2 rfl)) ⟨(va_cnB 3 hts gX4_appendBlock_X6_setValue_n67 rfl rfl rfl (nxw_28 hN) (hts _ kX4_appendBlock_9) hp_X6_setValue ⟨Nat.le_of_ble_eq_true rfl, Nat.le_of_ble_eq_true rfl⟩), (hts _ kX4_appendBlock_8), trivial⟩ ⟨preB_fb, fun U hU hW => preB_mk hU hW hPc hK hDc hN⟩ rfl rfl hl.1 rfl (lv_room (Nat.le_of_ble_eq_true rfl)) dX4_appendBlock_23 ⟨Nat.zero_le _, Nat.zero_le _⟩) hS (fun q _ h => hFc q h) hFc (fun u_ t H locs ht hvm hw hB hz1 hk1 hS => ?_)
  obtain ⟨hP, hD⟩ := x_join (ws' := [(h0, .inr (4, [.ref h1, .int v_blocks, .ref h2, .ref h3, .ref h4, .ref h5, .ref h6, .ref h7, .ref h8])), (h1, .inl (cI, 3, .inl v_settings)), (h2, .inl (cI, 16, .inl (upd v_names v_blocks.toNatClampNeg p1))), (h3, .inl (cI, 16, .inl (upd v_unders v_blocks.toNatClampNeg p2))), (h4, .inl (cI, 16, .inl v_manys)), (h5, .inl (cI, 17, .inl v_firsts)), (h6, .inl (cI, 2464, .inl v_volumes)), (h7, .inl (cI, 2464, .inl v_bad)), (h8, .inl (cI, 2464, .inl v_written))]) hP hD [3] [0, 1, 2, 4, 5, 6, 7, 8] rfl rfl (by decide) (by decide) hk1 hFc ht hB [0, 1, 2, 8, 3, 4, 5, 6, 7] (by decide) rfl
  clear hPc hDc hFc hk1 hB ht hz1 hvm
  refine lv_aload_n hx hb dX4_appendBlock_26 rfl (lv_at hl 1 rfl) ?_
  refine va_get (D := (dC, dI)) (ci := 4) (v := .ref h4) (C := RX4) (T := TX4) (N := 9) hx hb hts inX4_appendBlock_X4 hown hK hP 0 rfl rfl 4 (by decide) (hts _ kX4_appendBlock_4) (fun _ h9 => h9) rfl dX4_appendBlock_27 ?_
  refine lv_iload hx hb dX4_appendBlock_30 (lv_at hl 0 rfl) ?_
  refine lv_iload_n hx hb dX4_appendBlock_32 rfl (lv_at hl 4 rfl) ?_
  obtain ⟨g3, hd⟩ := gd_some hd
  have hPc : va_P (dC, dI) vwCl [(h4, .inl (cI, 16, .inl v_manys))] _ := hP.sub [4] rfl
  have hDc := hD.sub (ws' := [(h4, .inl (cI, 16, .inl v_manys))]) [4] (by decide) rfl
  have hFc := va_free (wc := [(h4, .inl (cI, 16, .inl v_manys))]) hD hS hA [4] rfl
  refine va_callv (va_runSN (As := [.ref h4, .int v_blocks, .int p3]) (rest := []) ⟨hx, hb, hml, hown, hts⟩ (c_X6_setValue l dC dI cI cC cT cL h4 16 H.size v_manys v_blocks p3 (upd v_manys v_blocks.toNatClampNeg p3) (i_X6_setValue (Nat.le_of_ble_eq_true rfl) g3 rfl)) ⟨(va_cnB 3 hts gX4_appendBlock_X6_setValue_n67 rfl rfl rfl (nxw_28 hN) (hts _ kX4_appendBlock_9) hp_X6_setValue ⟨Nat.le_of_ble_eq_true rfl, Nat.le_of_ble_eq_true rfl⟩), (hts _ kX4_appendBlock_8), trivial⟩ ⟨preB_fb, fun U hU hW => preB_mk hU hW hPc hK hDc hN⟩ rfl rfl hl.1 rfl (lv_room (Nat.le_of_ble_eq_true rfl)) dX4_appendBlock_33 ⟨Nat.zero_le _, Nat.zero_le _⟩) hS (fun q _ h => hFc q h) hFc (fun u_ t H locs ht hvm hw hB hz1 hk1 hS => ?_)
  obtain ⟨hP, hD⟩ := x_join (ws' := [(h0, .inr (4, [.ref h1, .int v_blocks, .ref h2, .ref h3, .ref h4, .ref h5, .ref h6, .ref h7, .ref h8])), (h1, .inl (cI, 3, .inl v_settings)), (h2, .inl (cI, 16, .inl (upd v_names v_blocks.toNatClampNeg p1))), (h3, .inl (cI, 16, .inl (upd v_unders v_blocks.toNatClampNeg p2))), (h4, .inl (cI, 16, .inl (upd v_manys v_blocks.toNatClampNeg p3))), (h5, .inl (cI, 17, .inl v_firsts)), (h6, .inl (cI, 2464, .inl v_volumes)), (h7, .inl (cI, 2464, .inl v_bad)), (h8, .inl (cI, 2464, .inl v_written))]) hP hD [4] [0, 1, 2, 3, 5, 6, 7, 8] rfl rfl (by decide) (by decide) hk1 hFc ht hB [0, 1, 2, 3, 8, 4, 5, 6, 7] (by decide) rfl
  clear hPc hDc hFc hk1 hB ht hz1 hvm
  refine lv_aload_n hx hb dX4_appendBlock_36 rfl (lv_at hl 1 rfl) ?_
  refine lv_iload hx hb dX4_appendBlock_37 (lv_at hl 0 rfl) ?_
  obtain ⟨g4, hd⟩ := gd_some hd
  have hPc : va_P (dC, dI) vwCl [(h0, .inr (4, [.ref h1, .int v_blocks, .ref h2, .ref h3, .ref h4, .ref h5, .ref h6, .ref h7, .ref h8])), (h5, .inl (cI, 17, .inl v_firsts))] _ := hP.sub [0, 5] rfl
  have hDc := hD.sub (ws' := [(h0, .inr (4, [.ref h1, .int v_blocks, .ref h2, .ref h3, .ref h4, .ref h5, .ref h6, .ref h7, .ref h8])), (h5, .inl (cI, 17, .inl v_firsts))]) [0, 5] (by decide) rfl
  have hFc := va_free (wc := [(h0, .inr (4, [.ref h1, .int v_blocks, .ref h2, .ref h3, .ref h4, .ref h5, .ref h6, .ref h7, .ref h8])), (h5, .inl (cI, 17, .inl v_firsts))]) hD hS hA [0, 5] rfl
  refine va_calli (va_runV (As := [.int v_blocks]) (rest := []) ⟨hx, hb, hml, hown, hts⟩ (c_X4_firstOf l dC dI cI cC cT cL h0 h1 h2 h3 h4 h5 h6 h7 h8 H.size v_blocks v_firsts v_blocks (v_firsts v_blocks.toNatClampNeg) (i_X4_firstOf g4 rfl)) (cwV 1 hts gX4_appendBlock_X4_firstOf rfl rfl rfl hv_X4_firstOf ⟨Nat.le_of_ble_eq_true rfl, Nat.le_of_ble_eq_true rfl⟩) ⟨preB_fb, va_recv hK hPc (ci := 4) (q0 := 0) rfl rfl, fun U hU hW => preB_mk hU hW hPc hK hDc hN⟩ rfl rfl hl.1 rfl (lv_room (Nat.le_of_ble_eq_true rfl)) dX4_appendBlock_39 ⟨Nat.zero_le _, Nat.zero_le _⟩) hS (fun q _ h => hFc q h) hFc (fun r_ u_ t H locs ht hvm hw hB hz1 hk1 hS => ?_)
  have hw : r_ = (v_firsts v_blocks.toNatClampNeg) := hw
  have hw := hw.symm
  subst hw
  obtain ⟨hP, hD⟩ := x_join (ws' := [(h0, .inr (4, [.ref h1, .int v_blocks, .ref h2, .ref h3, .ref h4, .ref h5, .ref h6, .ref h7, .ref h8])), (h1, .inl (cI, 3, .inl v_settings)), (h2, .inl (cI, 16, .inl (upd v_names v_blocks.toNatClampNeg p1))), (h3, .inl (cI, 16, .inl (upd v_unders v_blocks.toNatClampNeg p2))), (h4, .inl (cI, 16, .inl (upd v_manys v_blocks.toNatClampNeg p3))), (h5, .inl (cI, 17, .inl v_firsts)), (h6, .inl (cI, 2464, .inl v_volumes)), (h7, .inl (cI, 2464, .inl v_bad)), (h8, .inl (cI, 2464, .inl v_written))]) hP hD [0, 5] [1, 2, 3, 4, 6, 7, 8] rfl rfl (by decide) (by decide) hk1 hFc ht hB [7, 0, 1, 2, 3, 8, 4, 5, 6] (by decide) rfl
  clear hPc hDc hFc hk1 hB ht hz1 hvm
  refine lv_istore (lv' := [(7, .int (v_firsts v_blocks.toNatClampNeg)), (6, .int v_blocks), (0, .ref h0), (1, .int p1), (2, .int p2), (3, .int p3), (4, .long p4)]) hx hb dX4_appendBlock_42 hl (by decide) rfl (fun ls hl => ?_)
  refine lv_aload_n hx hb dX4_appendBlock_44 rfl (lv_at hl 2 rfl) ?_
  refine lv_iload hx hb dX4_appendBlock_45 (lv_at hl 1 rfl) ?_
  obtain ⟨q5, hq5, hd⟩ := bnd_some hd
  have hPc : va_P (dC, dI) vwCl [(h0, .inr (4, [.ref h1, .int v_blocks, .ref h2, .ref h3, .ref h4, .ref h5, .ref h6, .ref h7, .ref h8])), (h4, .inl (cI, 16, .inl (upd v_manys v_blocks.toNatClampNeg p3)))] _ := hP.sub [0, 4] rfl
  have hDc := hD.sub (ws' := [(h0, .inr (4, [.ref h1, .int v_blocks, .ref h2, .ref h3, .ref h4, .ref h5, .ref h6, .ref h7, .ref h8])), (h4, .inl (cI, 16, .inl (upd v_manys v_blocks.toNatClampNeg p3)))]) [0, 4] (by decide) rfl
  have hFc := va_free (wc := [(h0, .inr (4, [.ref h1, .int v_blocks, .ref h2, .ref h3, .ref h4, .ref h5, .ref h6, .ref h7, .ref h8])), (h4, .inl (cI, 16, .inl (upd v_manys v_blocks.toNatClampNeg p3)))]) hD hS hA [0, 4] rfl
  refine va_calli (va_runV (As := [.int v_blocks]) (rest := []) ⟨hx, hb, hml, hown, hts⟩ (c_X4_tellingCells l dC dI cI cC cT cL h0 h1 h2 h3 h4 h5 h6 h7 h8 H.size v_blocks (upd v_manys v_blocks.toNatClampNeg p3) v_blocks q5 hq5) (cwV 1 hts gX4_appendBlock_X4_tellingCells rfl rfl rfl hv_X4_tellingCells ⟨Nat.le_of_ble_eq_true rfl, Nat.le_of_ble_eq_true rfl⟩) ⟨preB_fb, va_recv hK hPc (ci := 4) (q0 := 0) rfl rfl, fun U hU hW => preB_mk hU hW hPc hK hDc hN⟩ rfl rfl hl.1 rfl (lv_room (Nat.le_of_ble_eq_true rfl)) dX4_appendBlock_47 ⟨Nat.zero_le _, Nat.zero_le _⟩) hS (fun q _ h => hFc q h) hFc (fun r_ u_ t H locs ht hvm hw hB hz1 hk1 hS => ?_)
  have hw : r_ = q5 := hw
  have hw := hw.symm
  subst hw
  obtain ⟨hP, hD⟩ := x_join (ws' := [(h0, .inr (4, [.ref h1, .int v_blocks, .ref h2, .ref h3, .ref h4, .ref h5, .ref h6, .ref h7, .ref h8])), (h1, .inl (cI, 3, .inl v_settings)), (h2, .inl (cI, 16, .inl (upd v_names v_blocks.toNatClampNeg p1))), (h3, .inl (cI, 16, .inl (upd v_unders v_blocks.toNatClampNeg p2))), (h4, .inl (cI, 16, .inl (upd v_manys v_blocks.toNatClampNeg p3))), (h5, .inl (cI, 17, .inl v_firsts)), (h6, .inl (cI, 2464, .inl v_volumes)), (h7, .inl (cI, 2464, .inl v_bad)), (h8, .inl (cI, 2464, .inl v_written))]) hP hD [0, 4] [1, 2, 3, 5, 6, 7, 8] rfl rfl (by decide) (by decide) hk1 hFc ht hB [7, 0, 1, 2, 8, 3, 4, 5, 6] (by decide) rfl
  clear hPc hDc hFc hk1 hB ht hz1 hvm
  refine lv_istore (lv' := [(8, .int q5), (7, .int (v_firsts v_blocks.toNatClampNeg)), (6, .int v_blocks), (0, .ref h0), (1, .int p1), (2, .int p2), (3, .int p3), (4, .long p4)]) hx hb dX4_appendBlock_50 hl (by decide) rfl (fun ls hl => ?_)
  refine lv_iload hx hb dX4_appendBlock_52 (lv_at hl 1 rfl) ?_
  refine lv_iconst (v := 2) hx hb dX4_appendBlock_54 (by decide) ?_
  refine lv_iload hx hb dX4_appendBlock_55 (lv_at hl 0 rfl) ?_
  refine lv_imul hx hb dX4_appendBlock_57 ?_
  refine lv_iadd hx hb dX4_appendBlock_58 ?_
  refine lv_iconst (v := 2) hx hb dX4_appendBlock_59 (by decide) ?_
  refine lv_iadd hx hb dX4_appendBlock_60 ?_
  refine lv_topi (fun x6 ex6 => ?_)
  replace hd := nm_some ex6 hd
  refine lv_istore (lv' := [(9, .int x6), (8, .int q5), (7, .int (v_firsts v_blocks.toNatClampNeg)), (6, .int v_blocks), (0, .ref h0), (1, .int p1), (2, .int p2), (3, .int p3), (4, .long p4)]) hx hb dX4_appendBlock_61 hl (by decide) rfl (fun ls hl => ?_)
  refine lv_iload hx hb dX4_appendBlock_63 (lv_at hl 2 rfl) ?_
  refine lv_istore (lv' := [(10, .int (v_firsts v_blocks.toNatClampNeg)), (9, .int x6), (8, .int q5), (7, .int (v_firsts v_blocks.toNatClampNeg)), (6, .int v_blocks), (0, .ref h0), (1, .int p1), (2, .int p2), (3, .int p3), (4, .long p4)]) hx hb dX4_appendBlock_65 hl (by decide) rfl (fun ls hl => ?_)
  obtain ⟨q7, hq7, hd⟩ := bnd_some hd
  have Kq7 : ∀ (H : Heap) (locs : List Loc) (ls : Array Slot), va_P (dC, dI) vwCl [(h0, .inr (4, [.ref h1, .int v_blocks, .ref h2, .ref h3, .ref h4, .ref h5, .ref h6, .ref h7, .ref h8])), (h1, .inl (cI, 3, .inl v_settings)), (h2, .inl (cI, 16, .inl (upd v_names v_blocks.toNatClampNeg p1))), (h3, .inl (cI, 16, .inl (upd v_unders v_blocks.toNatClampNeg p2))), (h4, .inl (cI, 16, .inl (upd v_manys v_blocks.toNatClampNeg p3))), (h5, .inl (cI, 17, .inl v_firsts)), (h6, .inl (cI, 2464, .inl q7.1)), (h7, .inl (cI, 2464, .inl q7.2)), (h8, .inl (cI, 2464, .inl v_written))] H → va_D A [(h0, .inr (4, [.ref h1, .int v_blocks, .ref h2, .ref h3, .ref h4, .ref h5, .ref h6, .ref h7, .ref h8])), (h1, .inl (cI, 3, .inl v_settings)), (h2, .inl (cI, 16, .inl (upd v_names v_blocks.toNatClampNeg p1))), (h3, .inl (cI, 16, .inl (upd v_unders v_blocks.toNatClampNeg p2))), (h4, .inl (cI, 16, .inl (upd v_manys v_blocks.toNatClampNeg p3))), (h5, .inl (cI, 17, .inl v_firsts)), (h6, .inl (cI, 2464, .inl q7.1)), (h7, .inl (cI, 2464, .inl q7.2)), (h8, .inl (cI, 2464, .inl v_written))] → va_S A s.heap H locs → lv_has ls 11 [(0, .ref h0), (3, .int p3), (4, .long p4), (6, .int v_blocks), (7, .int (v_firsts v_blocks.toNatClampNeg)), (8, .int q5), (9, .int x6)] → W p l e rmX4_appendBlock s m args below meth c H locs 0 0 Q (F0 m 104 ls []) := by
    intro H locs ls hP hD hS hl
    refine lv_iconst (v := 0) hx hb dX4_appendBlock_104 (by decide) ?_
    refine lv_istore (lv' := [(10, .int (0 : Int32)), (0, .ref h0), (3, .int p3), (4, .long p4), (6, .int v_blocks), (7, .int (v_firsts v_blocks.toNatClampNeg)), (8, .int q5), (9, .int x6)]) hx hb dX4_appendBlock_105 hl (by decide) rfl (fun ls hl => ?_)
    obtain ⟨q8, hq8, hd⟩ := bnd_some hd
    have Kq8 : ∀ (H : Heap) (locs : List Loc) (ls : Array Slot), va_P (dC, dI) vwCl [(h0, .inr (4, [.ref h1, .int v_blocks, .ref h2, .ref h3, .ref h4, .ref h5, .ref h6, .ref h7, .ref h8])), (h1, .inl (cI, 3, .inl v_settings)), (h2, .inl (cI, 16, .inl (upd v_names v_blocks.toNatClampNeg p1))), (h3, .inl (cI, 16, .inl (upd v_unders v_blocks.toNatClampNeg p2))), (h4, .inl (cI, 16, .inl (upd v_manys v_blocks.toNatClampNeg p3))), (h5, .inl (cI, 17, .inl v_firsts)), (h6, .inl (cI, 2464, .inl q7.1)), (h7, .inl (cI, 2464, .inl q7.2)), (h8, .inl (cI, 2464, .inl q8))] H → va_D A [(h0, .inr (4, [.ref h1, .int v_blocks, .ref h2, .ref h3, .ref h4, .ref h5, .ref h6, .ref h7, .ref h8])), (h1, .inl (cI, 3, .inl v_settings)), (h2, .inl (cI, 16, .inl (upd v_names v_blocks.toNatClampNeg p1))), (h3, .inl (cI, 16, .inl (upd v_unders v_blocks.toNatClampNeg p2))), (h4, .inl (cI, 16, .inl (upd v_manys v_blocks.toNatClampNeg p3))), (h5, .inl (cI, 17, .inl v_firsts)), (h6, .inl (cI, 2464, .inl q7.1)), (h7, .inl (cI, 2464, .inl q7.2)), (h8, .inl (cI, 2464, .inl q8))] → va_S A s.heap H locs → lv_has ls 11 [(0, .ref h0), (6, .int v_blocks), (9, .int x6)] → W p l e rmX4_appendBlock s m args below meth c H locs 0 0 Q (F0 m 136 ls []) := by
      intro H locs ls hP hD hS hl
      refine lv_aload_n hx hb dX4_appendBlock_136 rfl (lv_at hl 0 rfl) ?_
      refine va_get (D := (dC, dI)) (ci := 4) (v := .ref h5) (C := RX4) (T := TX4) (N := 9) hx hb hts inX4_appendBlock_X4 hown hK hP 0 rfl rfl 5 (by decide) (hts _ kX4_appendBlock_7) (fun _ h9 => h9) rfl dX4_appendBlock_137 ?_
      refine lv_iload hx hb dX4_appendBlock_140 (lv_at hl 1 rfl) ?_
      refine lv_iconst (v := 1) hx hb dX4_appendBlock_142 (by decide) ?_
      refine lv_iadd hx hb dX4_appendBlock_143 ?_
      refine lv_iload hx hb dX4_appendBlock_144 (lv_at hl 2 rfl) ?_
      obtain ⟨g9, hd⟩ := gd_some hd
      have hPc : va_P (dC, dI) vwCl [(h5, .inl (cI, 17, .inl v_firsts))] _ := hP.sub [5] rfl
      have hDc := hD.sub (ws' := [(h5, .inl (cI, 17, .inl v_firsts))]) [5] (by decide) rfl
      have hFc := va_free (wc := [(h5, .inl (cI, 17, .inl v_firsts))]) hD hS hA [5] rfl
      refine va_callv (va_runSN (As := [.ref h5, .int (v_blocks + (1 : Int32)), .int x6]) (rest := []) ⟨hx, hb, hml, hown, hts⟩ (c_X6_setValue l dC dI cI cC cT cL h5 17 H.size v_firsts (v_blocks + (1 : Int32)) x6 (upd v_firsts (v_blocks + (1 : Int32)).toNatClampNeg x6) (i_X6_setValue (Nat.le_of_ble_eq_true rfl) g9 rfl)) ⟨(va_cnB 3 hts gX4_appendBlock_X6_setValue_n67 rfl rfl rfl (nxw_28 hN) (hts _ kX4_appendBlock_9) hp_X6_setValue ⟨Nat.le_of_ble_eq_true rfl, Nat.le_of_ble_eq_true rfl⟩), (hts _ kX4_appendBlock_8), trivial⟩ ⟨preB_fb, fun U hU hW => preB_mk hU hW hPc hK hDc hN⟩ rfl rfl hl.1 rfl (lv_room (Nat.le_of_ble_eq_true rfl)) dX4_appendBlock_146 ⟨Nat.zero_le _, Nat.zero_le _⟩) hS (fun q _ h => hFc q h) hFc (fun u_ t H locs ht hvm hw hB hz1 hk1 hS => ?_)
      obtain ⟨hP, hD⟩ := x_join (ws' := [(h0, .inr (4, [.ref h1, .int v_blocks, .ref h2, .ref h3, .ref h4, .ref h5, .ref h6, .ref h7, .ref h8])), (h1, .inl (cI, 3, .inl v_settings)), (h2, .inl (cI, 16, .inl (upd v_names v_blocks.toNatClampNeg p1))), (h3, .inl (cI, 16, .inl (upd v_unders v_blocks.toNatClampNeg p2))), (h4, .inl (cI, 16, .inl (upd v_manys v_blocks.toNatClampNeg p3))), (h5, .inl (cI, 17, .inl (upd v_firsts (v_blocks + (1 : Int32)).toNatClampNeg x6))), (h6, .inl (cI, 2464, .inl q7.1)), (h7, .inl (cI, 2464, .inl q7.2)), (h8, .inl (cI, 2464, .inl q8))]) hP hD [5] [0, 1, 2, 3, 4, 6, 7, 8] rfl rfl (by decide) (by decide) hk1 hFc ht hB [0, 1, 2, 3, 4, 8, 5, 6, 7] (by decide) rfl
      clear hPc hDc hFc hk1 hB ht hz1 hvm
      refine lv_aload_n hx hb dX4_appendBlock_149 rfl (lv_at hl 0 rfl) ?_
      refine lv_dup hx hb dX4_appendBlock_150 rfl ?_
      refine va_get (D := (dC, dI)) (ci := 4) (v := .int v_blocks) (C := RX4) (T := TX4) (N := 9) hx hb hts inX4_appendBlock_X4 hown hK hP 0 rfl rfl 1 (by decide) (hts _ kX4_appendBlock_1) (fun _ h9 => h9) rfl dX4_appendBlock_151 ?_
      refine lv_iconst (v := 1) hx hb dX4_appendBlock_154 (by decide) ?_
      refine lv_iadd hx hb dX4_appendBlock_155 ?_
      refine va_put (D := (dC, dI)) (ci := 4) (v := .int (v_blocks + (1 : Int32))) (ty := .int) (C := RX4) (T := TX4) (N := 9) hx hb hts inX4_appendBlock_X4 tyX4 tyX4_ok nmX4 hown hK hP hD hS 0 rfl rfl 1 (by decide) (hts _ kX4_appendBlock_1) (fun _ h9 => h9) rfl (by decide +kernel) rfl rfl (Nat.le_of_ble_eq_true rfl) dX4_appendBlock_156 (fun H locs hP hD hS => ?_)
      have hP : va_P (dC, dI) vwCl [(h0, .inr (4, [.ref h1, .int (v_blocks + (1 : Int32)), .ref h2, .ref h3, .ref h4, .ref h5, .ref h6, .ref h7, .ref h8])), (h1, .inl (cI, 3, .inl v_settings)), (h2, .inl (cI, 16, .inl (upd v_names v_blocks.toNatClampNeg p1))), (h3, .inl (cI, 16, .inl (upd v_unders v_blocks.toNatClampNeg p2))), (h4, .inl (cI, 16, .inl (upd v_manys v_blocks.toNatClampNeg p3))), (h5, .inl (cI, 17, .inl (upd v_firsts (v_blocks + (1 : Int32)).toNatClampNeg x6))), (h6, .inl (cI, 2464, .inl q7.1)), (h7, .inl (cI, 2464, .inl q7.2)), (h8, .inl (cI, 2464, .inl q8))] H := hP
      have hD : va_D A [(h0, .inr (4, [.ref h1, .int (v_blocks + (1 : Int32)), .ref h2, .ref h3, .ref h4, .ref h5, .ref h6, .ref h7, .ref h8])), (h1, .inl (cI, 3, .inl v_settings)), (h2, .inl (cI, 16, .inl (upd v_names v_blocks.toNatClampNeg p1))), (h3, .inl (cI, 16, .inl (upd v_unders v_blocks.toNatClampNeg p2))), (h4, .inl (cI, 16, .inl (upd v_manys v_blocks.toNatClampNeg p3))), (h5, .inl (cI, 17, .inl (upd v_firsts (v_blocks + (1 : Int32)).toNatClampNeg x6))), (h6, .inl (cI, 2464, .inl q7.1)), (h7, .inl (cI, 2464, .inl q7.2)), (h8, .inl (cI, 2464, .inl q8))] := hD
      refine lv_iload hx hb dX4_appendBlock_159 (lv_at hl 1 rfl) ?_
      cases hd
      exact hend (by rfl) hP hD hS dX4_appendBlock_161
    clear hd
    have KL12 : ∀ (fu : Nat) (y10_107 : Int32) (v_written_107 : (Nat → Int32)) (hd : den_X4_appendBlock_L107 p3 p4 v_blocks v_firsts q5 fu y10_107 v_written_107 = some q8) (H : Heap) (locs : List Loc) (ls : Array Slot), va_P (dC, dI) vwCl [(h0, .inr (4, [.ref h1, .int v_blocks, .ref h2, .ref h3, .ref h4, .ref h5, .ref h6, .ref h7, .ref h8])), (h1, .inl (cI, 3, .inl v_settings)), (h2, .inl (cI, 16, .inl (upd v_names v_blocks.toNatClampNeg p1))), (h3, .inl (cI, 16, .inl (upd v_unders v_blocks.toNatClampNeg p2))), (h4, .inl (cI, 16, .inl (upd v_manys v_blocks.toNatClampNeg p3))), (h5, .inl (cI, 17, .inl v_firsts)), (h6, .inl (cI, 2464, .inl q7.1)), (h7, .inl (cI, 2464, .inl q7.2)), (h8, .inl (cI, 2464, .inl v_written_107))] H → va_D A [(h0, .inr (4, [.ref h1, .int v_blocks, .ref h2, .ref h3, .ref h4, .ref h5, .ref h6, .ref h7, .ref h8])), (h1, .inl (cI, 3, .inl v_settings)), (h2, .inl (cI, 16, .inl (upd v_names v_blocks.toNatClampNeg p1))), (h3, .inl (cI, 16, .inl (upd v_unders v_blocks.toNatClampNeg p2))), (h4, .inl (cI, 16, .inl (upd v_manys v_blocks.toNatClampNeg p3))), (h5, .inl (cI, 17, .inl v_firsts)), (h6, .inl (cI, 2464, .inl q7.1)), (h7, .inl (cI, 2464, .inl q7.2)), (h8, .inl (cI, 2464, .inl v_written_107))] → va_S A s.heap H locs → lv_has ls 11 [(0, .ref h0), (3, .int p3), (4, .long p4), (6, .int v_blocks), (7, .int (v_firsts v_blocks.toNatClampNeg)), (8, .int q5), (9, .int x6), (10, .int y10_107)] → W p l e rmX4_appendBlock s m args below meth c H locs 0 0 Q (F0 m 107 ls []) := by
      intro fu
      induction fu with
      | zero => intro y10_107 v_written_107 hd; exact no_some hd
      | succ fu ih =>
        intro y10_107 v_written_107 hd H locs ls hP hD hS hl
        rw [den_X4_appendBlock_L107] at hd
        refine lv_iload hx hb dX4_appendBlock_107 (lv_at hl 7 rfl) ?_
        refine lv_iconst (v := 2) hx hb dX4_appendBlock_109 (by decide) ?_
        refine lv_icmp_ge (tgt := 136) hx hb dX4_appendBlock_110 (by decide) (fun c10 => ?_) (fun c10 => ?_)
        · replace hd := ite_t c10 hd
          cases hd
          exact Kq8 _ _ _ hP hD hS (lv_sub hl [0, 3, 6] rfl)
        · replace hd := ite_f c10 hd
          refine lv_aload_n hx hb dX4_appendBlock_113 rfl (lv_at hl 0 rfl) ?_
          refine lv_iload hx hb dX4_appendBlock_114 (lv_at hl 4 rfl) ?_
          refine lv_iload hx hb dX4_appendBlock_116 (lv_at hl 7 rfl) ?_
          refine lv_iload hx hb dX4_appendBlock_118 (lv_at hl 5 rfl) ?_
          refine lv_imul hx hb dX4_appendBlock_120 ?_
          refine lv_iadd hx hb dX4_appendBlock_121 ?_
          refine lv_iconst (v := 4) hx hb dX4_appendBlock_122 (by decide) ?_
          refine lv_iadd hx hb dX4_appendBlock_123 ?_
          refine lv_iload_n hx hb dX4_appendBlock_124 rfl (lv_at hl 1 rfl) ?_
          refine lv_lload hx hb dX4_appendBlock_125 (lv_at hl 2 rfl) ?_
          obtain ⟨q11, hq11, hd⟩ := bnd_some hd
          have hPc : va_P (dC, dI) vwCl [(h0, .inr (4, [.ref h1, .int v_blocks, .ref h2, .ref h3, .ref h4, .ref h5, .ref h6, .ref h7, .ref h8])), (h8, .inl (cI, 2464, .inl v_written_107))] _ := hP.sub [0, 8] rfl
          have hDc := hD.sub (ws' := [(h0, .inr (4, [.ref h1, .int v_blocks, .ref h2, .ref h3, .ref h4, .ref h5, .ref h6, .ref h7, .ref h8])), (h8, .inl (cI, 2464, .inl v_written_107))]) [0, 8] (by decide) rfl
          have hFc := va_free (wc := [(h0, .inr (4, [.ref h1, .int v_blocks, .ref h2, .ref h3, .ref h4, .ref h5, .ref h6, .ref h7, .ref h8])), (h8, .inl (cI, 2464, .inl v_written_107))]) hD hS hA [0, 8] rfl
          refine va_callv (va_runV (As := [.int (((v_firsts v_blocks.toNatClampNeg) + (y10_107 * q5)) + (4 : Int32)), .int p3, .long p4]) (rest := []) ⟨hx, hb, hml, hown, hts⟩ (c_X4_writeTelling l dC dI cI cC cT cL h0 h1 h2 h3 h4 h5 h6 h7 h8 H.size v_blocks v_written_107 (((v_firsts v_blocks.toNatClampNeg) + (y10_107 * q5)) + (4 : Int32)) p3 p4 q11 hq11) (cwV 3 hts gX4_appendBlock_X4_writeTelling rfl rfl rfl hv_X4_writeTelling ⟨Nat.le_of_ble_eq_true rfl, Nat.le_of_ble_eq_true rfl⟩) ⟨preB_fb, va_recv hK hPc (ci := 4) (q0 := 0) rfl rfl, fun U hU hW => preB_mk hU hW hPc hK hDc hN⟩ rfl rfl hl.1 rfl (lv_room (Nat.le_of_ble_eq_true rfl)) dX4_appendBlock_127 ⟨Nat.zero_le _, Nat.zero_le _⟩) hS (fun q _ h => hFc q h) hFc (fun u_ t H locs ht hvm hw hB hz1 hk1 hS => ?_)
          obtain ⟨hP, hD⟩ := x_join (ws' := [(h0, .inr (4, [.ref h1, .int v_blocks, .ref h2, .ref h3, .ref h4, .ref h5, .ref h6, .ref h7, .ref h8])), (h1, .inl (cI, 3, .inl v_settings)), (h2, .inl (cI, 16, .inl (upd v_names v_blocks.toNatClampNeg p1))), (h3, .inl (cI, 16, .inl (upd v_unders v_blocks.toNatClampNeg p2))), (h4, .inl (cI, 16, .inl (upd v_manys v_blocks.toNatClampNeg p3))), (h5, .inl (cI, 17, .inl v_firsts)), (h6, .inl (cI, 2464, .inl q7.1)), (h7, .inl (cI, 2464, .inl q7.2)), (h8, .inl (cI, 2464, .inl q11))]) hP hD [0, 8] [1, 2, 3, 4, 5, 6, 7] rfl rfl (by decide) (by decide) hk1 hFc ht hB [7, 0, 1, 2, 3, 4, 5, 6, 8] (by decide) rfl
          clear hPc hDc hFc hk1 hB ht hz1 hvm
          refine lv_iinc (v := (y10_107 + (1 : Int32))) (lv' := [(10, .int (y10_107 + (1 : Int32))), (0, .ref h0), (3, .int p3), (4, .long p4), (6, .int v_blocks), (7, .int (v_firsts v_blocks.toNatClampNeg)), (8, .int q5), (9, .int x6)]) hx hb dX4_appendBlock_130 hl (k := 7) rfl (by first | rfl | decide) (by decide) rfl (fun ls hl => ?_)
          refine lv_goto (tgt := 107) hx hb dX4_appendBlock_133 (by decide) ?_
          exact ih (y10_107 + (1 : Int32)) q11 hd _ _ _ hP hD hS (lv_sub hl [1, 2, 3, 4, 5, 6, 7, 0] rfl)
    exact KL12 FU (0 : Int32) v_written hq8 _ _ _ hP hD hS (lv_sub hl [1, 2, 3, 4, 5, 6, 7, 0] rfl)
  clear hd
  have KL16 : ∀ (fu : Nat) (y10_67 : Int32) (v_volumes_67 : (Nat → Int32)) (v_bad_67 : (Nat → Int32)) (hd : den_X4_appendBlock_L67 v_settings x6 fu y10_67 v_volumes_67 v_bad_67 = some q7) (H : Heap) (locs : List Loc) (ls : Array Slot), va_P (dC, dI) vwCl [(h0, .inr (4, [.ref h1, .int v_blocks, .ref h2, .ref h3, .ref h4, .ref h5, .ref h6, .ref h7, .ref h8])), (h1, .inl (cI, 3, .inl v_settings)), (h2, .inl (cI, 16, .inl (upd v_names v_blocks.toNatClampNeg p1))), (h3, .inl (cI, 16, .inl (upd v_unders v_blocks.toNatClampNeg p2))), (h4, .inl (cI, 16, .inl (upd v_manys v_blocks.toNatClampNeg p3))), (h5, .inl (cI, 17, .inl v_firsts)), (h6, .inl (cI, 2464, .inl v_volumes_67)), (h7, .inl (cI, 2464, .inl v_bad_67)), (h8, .inl (cI, 2464, .inl v_written))] H → va_D A [(h0, .inr (4, [.ref h1, .int v_blocks, .ref h2, .ref h3, .ref h4, .ref h5, .ref h6, .ref h7, .ref h8])), (h1, .inl (cI, 3, .inl v_settings)), (h2, .inl (cI, 16, .inl (upd v_names v_blocks.toNatClampNeg p1))), (h3, .inl (cI, 16, .inl (upd v_unders v_blocks.toNatClampNeg p2))), (h4, .inl (cI, 16, .inl (upd v_manys v_blocks.toNatClampNeg p3))), (h5, .inl (cI, 17, .inl v_firsts)), (h6, .inl (cI, 2464, .inl v_volumes_67)), (h7, .inl (cI, 2464, .inl v_bad_67)), (h8, .inl (cI, 2464, .inl v_written))] → va_S A s.heap H locs → lv_has ls 11 [(0, .ref h0), (3, .int p3), (4, .long p4), (6, .int v_blocks), (7, .int (v_firsts v_blocks.toNatClampNeg)), (8, .int q5), (9, .int x6), (10, .int y10_67)] → W p l e rmX4_appendBlock s m args below meth c H locs 0 0 Q (F0 m 67 ls []) := by
    intro fu
    induction fu with
    | zero => intro y10_67 v_volumes_67 v_bad_67 hd; exact no_some hd
    | succ fu ih =>
      intro y10_67 v_volumes_67 v_bad_67 hd H locs ls hP hD hS hl
      rw [den_X4_appendBlock_L67] at hd
      refine lv_iload hx hb dX4_appendBlock_67 (lv_at hl 7 rfl) ?_
      refine lv_iload hx hb dX4_appendBlock_69 (lv_at hl 6 rfl) ?_
      refine lv_icmp_ge (tgt := 104) hx hb dX4_appendBlock_71 (by decide) (fun c13 => ?_) (fun c13 => ?_)
      · replace hd := ite_t c13 hd
        cases hd
        exact Kq7 _ _ _ hP hD hS (lv_sub hl [0, 1, 2, 3, 4, 5, 6] rfl)
      · replace hd := ite_f c13 hd
        refine lv_aload_n hx hb dX4_appendBlock_74 rfl (lv_at hl 0 rfl) ?_
        refine va_get (D := (dC, dI)) (ci := 4) (v := .ref h6) (C := RX4) (T := TX4) (N := 9) hx hb hts inX4_appendBlock_X4 hown hK hP 0 rfl rfl 6 (by decide) (hts _ kX4_appendBlock_5) (fun _ h9 => h9) rfl dX4_appendBlock_75 ?_
        refine lv_iload hx hb dX4_appendBlock_78 (lv_at hl 7 rfl) ?_
        refine lv_aload_n hx hb dX4_appendBlock_80 rfl (lv_at hl 0 rfl) ?_
        refine lv_iconst (v := 0) hx hb dX4_appendBlock_81 (by decide) ?_
        have hPc : va_P (dC, dI) vwCl [(h0, .inr (4, [.ref h1, .int v_blocks, .ref h2, .ref h3, .ref h4, .ref h5, .ref h6, .ref h7, .ref h8])), (h1, .inl (cI, 3, .inl v_settings))] _ := hP.sub [0, 1] rfl
        have hDc := hD.sub (ws' := [(h0, .inr (4, [.ref h1, .int v_blocks, .ref h2, .ref h3, .ref h4, .ref h5, .ref h6, .ref h7, .ref h8])), (h1, .inl (cI, 3, .inl v_settings))]) [0, 1] (by decide) rfl
        have hFc := va_free (wc := [(h0, .inr (4, [.ref h1, .int v_blocks, .ref h2, .ref h3, .ref h4, .ref h5, .ref h6, .ref h7, .ref h8])), (h1, .inl (cI, 3, .inl v_settings))]) hD hS hA [0, 1] rfl
        refine va_calli (va_runV (As := [.int (0 : Int32)]) (rest := [.int y10_67, .ref h6]) ⟨hx, hb, hml, hown, hts⟩ (c_X4_setting l dC dI cI cC cT cL h0 h1 h2 h3 h4 h5 h6 h7 h8 H.size v_settings v_blocks (0 : Int32) (v_settings 0) (i_X4_setting (by decide) rfl)) (cwV 1 hts gX4_appendBlock_X4_setting rfl rfl rfl hv_X4_setting ⟨Nat.le_of_ble_eq_true rfl, Nat.le_of_ble_eq_true rfl⟩) ⟨preB_fb, va_recv hK hPc (ci := 4) (q0 := 0) rfl rfl, fun U hU hW => preB_mk hU hW hPc hK hDc hN⟩ rfl rfl hl.1 rfl (lv_room (Nat.le_of_ble_eq_true rfl)) dX4_appendBlock_82 ⟨Nat.zero_le _, Nat.zero_le _⟩) hS (fun q _ h => hFc q h) hFc (fun r_ u_ t H locs ht hvm hw hB hz1 hk1 hS => ?_)
        have hw : r_ = (v_settings 0) := hw
        have hw := hw.symm
        subst hw
        obtain ⟨hP, hD⟩ := x_join (ws' := [(h0, .inr (4, [.ref h1, .int v_blocks, .ref h2, .ref h3, .ref h4, .ref h5, .ref h6, .ref h7, .ref h8])), (h1, .inl (cI, 3, .inl v_settings)), (h2, .inl (cI, 16, .inl (upd v_names v_blocks.toNatClampNeg p1))), (h3, .inl (cI, 16, .inl (upd v_unders v_blocks.toNatClampNeg p2))), (h4, .inl (cI, 16, .inl (upd v_manys v_blocks.toNatClampNeg p3))), (h5, .inl (cI, 17, .inl v_firsts)), (h6, .inl (cI, 2464, .inl v_volumes_67)), (h7, .inl (cI, 2464, .inl v_bad_67)), (h8, .inl (cI, 2464, .inl v_written))]) hP hD [0, 1] [2, 3, 4, 5, 6, 7, 8] rfl rfl (by decide) (by decide) hk1 hFc ht hB [7, 8, 0, 1, 2, 3, 4, 5, 6] (by decide) rfl
        clear hPc hDc hFc hk1 hB ht hz1 hvm
        obtain ⟨g14, hd⟩ := gd_some hd
        have hPc : va_P (dC, dI) vwCl [(h6, .inl (cI, 2464, .inl v_volumes_67))] _ := hP.sub [6] rfl
        have hDc := hD.sub (ws' := [(h6, .inl (cI, 2464, .inl v_volumes_67))]) [6] (by decide) rfl
        have hFc := va_free (wc := [(h6, .inl (cI, 2464, .inl v_volumes_67))]) hD hS hA [6] rfl
        refine va_callv (va_runSN (As := [.ref h6, .int y10_67, .int (v_settings 0)]) (rest := []) ⟨hx, hb, hml, hown, hts⟩ (c_X6_setValue l dC dI cI cC cT cL h6 2464 H.size v_volumes_67 y10_67 (v_settings 0) (upd v_volumes_67 y10_67.toNatClampNeg (v_settings 0)) (i_X6_setValue (Nat.le_of_ble_eq_true rfl) g14 rfl)) ⟨(va_cnB 3 hts gX4_appendBlock_X6_setValue_n67 rfl rfl rfl (nxw_28 hN) (hts _ kX4_appendBlock_9) hp_X6_setValue ⟨Nat.le_of_ble_eq_true rfl, Nat.le_of_ble_eq_true rfl⟩), (hts _ kX4_appendBlock_8), trivial⟩ ⟨preB_fb, fun U hU hW => preB_mk hU hW hPc hK hDc hN⟩ rfl rfl hl.1 rfl (lv_room (Nat.le_of_ble_eq_true rfl)) dX4_appendBlock_85 ⟨Nat.zero_le _, Nat.zero_le _⟩) hS (fun q _ h => hFc q h) hFc (fun u_ t H locs ht hvm hw hB hz1 hk1 hS => ?_)
        obtain ⟨hP, hD⟩ := x_join (ws' := [(h0, .inr (4, [.ref h1, .int v_blocks, .ref h2, .ref h3, .ref h4, .ref h5, .ref h6, .ref h7, .ref h8])), (h1, .inl (cI, 3, .inl v_settings)), (h2, .inl (cI, 16, .inl (upd v_names v_blocks.toNatClampNeg p1))), (h3, .inl (cI, 16, .inl (upd v_unders v_blocks.toNatClampNeg p2))), (h4, .inl (cI, 16, .inl (upd v_manys v_blocks.toNatClampNeg p3))), (h5, .inl (cI, 17, .inl v_firsts)), (h6, .inl (cI, 2464, .inl (upd v_volumes_67 y10_67.toNatClampNeg (v_settings 0)))), (h7, .inl (cI, 2464, .inl v_bad_67)), (h8, .inl (cI, 2464, .inl v_written))]) hP hD [6] [0, 1, 2, 3, 4, 5, 7, 8] rfl rfl (by decide) (by decide) hk1 hFc ht hB [0, 1, 2, 3, 4, 5, 8, 6, 7] (by decide) rfl
        clear hPc hDc hFc hk1 hB ht hz1 hvm
        refine lv_aload_n hx hb dX4_appendBlock_88 rfl (lv_at hl 0 rfl) ?_
        refine va_get (D := (dC, dI)) (ci := 4) (v := .ref h7) (C := RX4) (T := TX4) (N := 9) hx hb hts inX4_appendBlock_X4 hown hK hP 0 rfl rfl 7 (by decide) (hts _ kX4_appendBlock_6) (fun _ h9 => h9) rfl dX4_appendBlock_89 ?_
        refine lv_iload hx hb dX4_appendBlock_92 (lv_at hl 7 rfl) ?_
        refine lv_iconst (v := 0) hx hb dX4_appendBlock_94 (by decide) ?_
        obtain ⟨g15, hd⟩ := gd_some hd
        have hPc : va_P (dC, dI) vwCl [(h7, .inl (cI, 2464, .inl v_bad_67))] _ := hP.sub [7] rfl
        have hDc := hD.sub (ws' := [(h7, .inl (cI, 2464, .inl v_bad_67))]) [7] (by decide) rfl
        have hFc := va_free (wc := [(h7, .inl (cI, 2464, .inl v_bad_67))]) hD hS hA [7] rfl
        refine va_callv (va_runSN (As := [.ref h7, .int y10_67, .int (0 : Int32)]) (rest := []) ⟨hx, hb, hml, hown, hts⟩ (c_X6_setValue l dC dI cI cC cT cL h7 2464 H.size v_bad_67 y10_67 (0 : Int32) (upd v_bad_67 y10_67.toNatClampNeg (0 : Int32)) (i_X6_setValue (Nat.le_of_ble_eq_true rfl) g15 rfl)) ⟨(va_cnB 3 hts gX4_appendBlock_X6_setValue_n67 rfl rfl rfl (nxw_28 hN) (hts _ kX4_appendBlock_9) hp_X6_setValue ⟨Nat.le_of_ble_eq_true rfl, Nat.le_of_ble_eq_true rfl⟩), (hts _ kX4_appendBlock_8), trivial⟩ ⟨preB_fb, fun U hU hW => preB_mk hU hW hPc hK hDc hN⟩ rfl rfl hl.1 rfl (lv_room (Nat.le_of_ble_eq_true rfl)) dX4_appendBlock_95 ⟨Nat.zero_le _, Nat.zero_le _⟩) hS (fun q _ h => hFc q h) hFc (fun u_ t H locs ht hvm hw hB hz1 hk1 hS => ?_)
        obtain ⟨hP, hD⟩ := x_join (ws' := [(h0, .inr (4, [.ref h1, .int v_blocks, .ref h2, .ref h3, .ref h4, .ref h5, .ref h6, .ref h7, .ref h8])), (h1, .inl (cI, 3, .inl v_settings)), (h2, .inl (cI, 16, .inl (upd v_names v_blocks.toNatClampNeg p1))), (h3, .inl (cI, 16, .inl (upd v_unders v_blocks.toNatClampNeg p2))), (h4, .inl (cI, 16, .inl (upd v_manys v_blocks.toNatClampNeg p3))), (h5, .inl (cI, 17, .inl v_firsts)), (h6, .inl (cI, 2464, .inl (upd v_volumes_67 y10_67.toNatClampNeg (v_settings 0)))), (h7, .inl (cI, 2464, .inl (upd v_bad_67 y10_67.toNatClampNeg (0 : Int32)))), (h8, .inl (cI, 2464, .inl v_written))]) hP hD [7] [0, 1, 2, 3, 4, 5, 6, 8] rfl rfl (by decide) (by decide) hk1 hFc ht hB [0, 1, 2, 3, 4, 5, 6, 8, 7] (by decide) rfl
        clear hPc hDc hFc hk1 hB ht hz1 hvm
        refine lv_iinc (v := (y10_67 + (1 : Int32))) (lv' := [(10, .int (y10_67 + (1 : Int32))), (0, .ref h0), (3, .int p3), (4, .long p4), (6, .int v_blocks), (7, .int (v_firsts v_blocks.toNatClampNeg)), (8, .int q5), (9, .int x6)]) hx hb dX4_appendBlock_98 hl (k := 7) rfl (by first | rfl | decide) (by decide) rfl (fun ls hl => ?_)
        refine lv_goto (tgt := 67) hx hb dX4_appendBlock_101 (by decide) ?_
        exact ih (y10_67 + (1 : Int32)) (upd v_volumes_67 y10_67.toNatClampNeg (v_settings 0)) (upd v_bad_67 y10_67.toNatClampNeg (0 : Int32)) hd _ _ _ hP hD hS (lv_sub hl [1, 2, 3, 4, 5, 6, 7, 0] rfl)
  exact KL16 FU (v_firsts v_blocks.toNatClampNeg) v_volumes v_bad hq7 _ _ _ hP hD hS (lv_sub hl [5, 8, 9, 4, 3, 2, 1, 0] rfl)
def rmX4_errorOfFading : Room := { frames := 3, cells := 0, slots := 0, locals := 62 }
theorem hp_X4_errorOfFading : yX4_errorOfFading.cls ≠ "java/lang/invoke/MethodHandle" ∧ yX4_errorOfFading.cls ≠ "java/lang/invoke/VarHandle" ∧ (parseMethodDescriptor yX4_errorOfFading.desc).map (fun d => d.parameters.length) = some 3 := by decide +kernel
theorem hv_X4_errorOfFading : yX4_errorOfFading.cls = RX4 ∧ yX4_errorOfFading.cls ≠ "java/lang/invoke/MethodHandle" ∧ yX4_errorOfFading.cls ≠ "java/lang/invoke/VarHandle" ∧ (parseMethodDescriptor yX4_errorOfFading.desc).map (fun d => d.parameters.length) = some 3 := by decide +kernel
set_option maxHeartbeats 4000000 in
set_option maxRecDepth 100000 in
theorem c_X4_errorOfFading (l : Launch) (dC : Nat → ClassId) (dI : Nat → Nat → Nat) (cI cC cT cL : ClassId) (h0 h1 h2 h3 h4 h5 h6 h7 h8 : Nat) (sz : Nat) (v_blocks : Int32) (v_firsts : (Nat → Int32)) (p1 : Int32) (p2 : Int32) (p3 : Int32) (r : Int32) (hd : den_X4_errorOfFading v_blocks v_firsts p1 p2 p3 = some r) : Met l yX4_errorOfFading wsX4_errorOfFading rmX4_errorOfFading (va_Pc [.ref h0, .int p1, .int p2, .int p3] (preB sz (dC, dI) [(h0, .inr (4, [.ref h1, .int v_blocks, .ref h2, .ref h3, .ref h4, .ref h5, .ref h6, .ref h7, .ref h8])), (h5, .inl (cI, 17, .inl v_firsts))] [(cI, .int), (cC, .char), (cT, .object "CassetteTones$Tape"), (cL, .long)])) (va_Qi (S := Unit) (fun v _ => v = r) (fun _ t => posB (dC, dI) [(h0, .inr (4, [.ref h1, .int v_blocks, .ref h2, .ref h3, .ref h4, .ref h5, .ref h6, .ref h7, .ref h8])), (h5, .inl (cI, 17, .inl v_firsts))] [(cI, .int), (cC, .char), (cT, .object "CassetteTones$Tape"), (cL, .long)] (va_A [(h0, .inr (4, [.ref h1, .int v_blocks, .ref h2, .ref h3, .ref h4, .ref h5, .ref h6, .ref h7, .ref h8])), (h5, .inl (cI, 17, .inl v_firsts))] sz) t) (va_A [(h0, .inr (4, [.ref h1, .int v_blocks, .ref h2, .ref h3, .ref h4, .ref h5, .ref h6, .ref h7, .ref h8])), (h5, .inl (cI, 17, .inl v_firsts))] sz)) 0 0 (va_A [(h0, .inr (4, [.ref h1, .int v_blocks, .ref h2, .ref h3, .ref h4, .ref h5, .ref h6, .ref h7, .ref h8])), (h5, .inl (cI, 17, .inl v_firsts))] sz) := by
  refine x_met_i (by decide) rfl (Nat.le_of_ble_eq_true rfl) ?_
  intro p e s m args below meth c A Q H locs ls hx hb hml hown hts hK hN hA hP hD hS hl hend
  have hown : s.vm.findClass RX4 = some m.cls := hown
  have hl : lv_has ls 4 [(0, .ref h0), (1, .int p1), (2, .int p2), (3, .int p3)] := hl
  unfold den_X4_errorOfFading at hd
  refine lv_aload_n hx hb dX4_errorOfFading_0 rfl (lv_at hl 0 rfl) ?_
  refine lv_iload_n hx hb dX4_errorOfFading_1 rfl (lv_at hl 1 rfl) ?_
  obtain ⟨q1, hq1, hd⟩ := bnd_some hd
  have hPc : va_P (dC, dI) vwCl [(h0, .inr (4, [.ref h1, .int v_blocks, .ref h2, .ref h3, .ref h4, .ref h5, .ref h6, .ref h7, .ref h8])), (h5, .inl (cI, 17, .inl v_firsts))] _ := hP.sub [0, 1] rfl
  have hDc := hD.sub (ws' := [(h0, .inr (4, [.ref h1, .int v_blocks, .ref h2, .ref h3, .ref h4, .ref h5, .ref h6, .ref h7, .ref h8])), (h5, .inl (cI, 17, .inl v_firsts))]) [0, 1] (by decide) rfl
  have hFc := va_free (wc := [(h0, .inr (4, [.ref h1, .int v_blocks, .ref h2, .ref h3, .ref h4, .ref h5, .ref h6, .ref h7, .ref h8])), (h5, .inl (cI, 17, .inl v_firsts))]) hD hS hA [0, 1] rfl
  refine va_calli (va_runV (As := [.int p1]) (rest := []) ⟨hx, hb, hml, hown, hts⟩ (c_X4_hasCell l dC dI cI cC cT cL h0 h1 h2 h3 h4 h5 h6 h7 h8 H.size v_blocks v_firsts p1 q1 hq1) (cwV 1 hts gX4_errorOfFading_X4_hasCell rfl rfl rfl hv_X4_hasCell ⟨Nat.le_of_ble_eq_true rfl, Nat.le_of_ble_eq_true rfl⟩) ⟨preB_fb, va_recv hK hPc (ci := 4) (q0 := 0) rfl rfl, fun U hU hW => preB_mk hU hW hPc hK hDc hN⟩ rfl rfl hl.1 rfl (lv_room (Nat.le_of_ble_eq_true rfl)) dX4_errorOfFading_2 ⟨Nat.zero_le _, Nat.zero_le _⟩) hS (fun q _ h => hFc q h) hFc (fun r_ u_ t H locs ht hvm hw hB hz1 hk1 hS => ?_)
  have hw : r_ = q1 := hw
  have hw := hw.symm
  subst hw
  obtain ⟨hP, hD⟩ := x_join (ws' := [(h0, .inr (4, [.ref h1, .int v_blocks, .ref h2, .ref h3, .ref h4, .ref h5, .ref h6, .ref h7, .ref h8])), (h5, .inl (cI, 17, .inl v_firsts))]) hP hD [0, 1] [] rfl rfl (by decide) (by decide) hk1 hFc ht hB [0, 1] (by decide) rfl
  clear hPc hDc hFc hk1 hB ht hz1 hvm
  refine lv_if_eq (tgt := 16) hx hb dX4_errorOfFading_5 (by decide) (fun c2 => ?_) (fun c2 => ?_)
  · replace hd := ite_t c2 hd
    refine lv_iconst (v := -1) hx hb dX4_errorOfFading_16 (by decide) ?_
    cases hd
    exact hend (by rfl) hP hD hS dX4_errorOfFading_17
  · replace hd := ite_f c2 hd
    refine lv_aload_n hx hb dX4_errorOfFading_8 rfl (lv_at hl 0 rfl) ?_
    refine lv_iload_n hx hb dX4_errorOfFading_9 rfl (lv_at hl 2 rfl) ?_
    obtain ⟨q3, hq3, hd⟩ := bnd_some hd
    have hPc : va_P (dC, dI) vwCl [(h0, .inr (4, [.ref h1, .int v_blocks, .ref h2, .ref h3, .ref h4, .ref h5, .ref h6, .ref h7, .ref h8])), (h5, .inl (cI, 17, .inl v_firsts))] _ := hP.sub [0, 1] rfl
    have hDc := hD.sub (ws' := [(h0, .inr (4, [.ref h1, .int v_blocks, .ref h2, .ref h3, .ref h4, .ref h5, .ref h6, .ref h7, .ref h8])), (h5, .inl (cI, 17, .inl v_firsts))]) [0, 1] (by decide) rfl
    have hFc := va_free (wc := [(h0, .inr (4, [.ref h1, .int v_blocks, .ref h2, .ref h3, .ref h4, .ref h5, .ref h6, .ref h7, .ref h8])), (h5, .inl (cI, 17, .inl v_firsts))]) hD hS hA [0, 1] rfl
    refine va_calli (va_runV (As := [.int p2]) (rest := []) ⟨hx, hb, hml, hown, hts⟩ (c_X4_hasCell l dC dI cI cC cT cL h0 h1 h2 h3 h4 h5 h6 h7 h8 H.size v_blocks v_firsts p2 q3 hq3) (cwV 1 hts gX4_errorOfFading_X4_hasCell rfl rfl rfl hv_X4_hasCell ⟨Nat.le_of_ble_eq_true rfl, Nat.le_of_ble_eq_true rfl⟩) ⟨preB_fb, va_recv hK hPc (ci := 4) (q0 := 0) rfl rfl, fun U hU hW => preB_mk hU hW hPc hK hDc hN⟩ rfl rfl hl.1 rfl (lv_room (Nat.le_of_ble_eq_true rfl)) dX4_errorOfFading_10 ⟨Nat.zero_le _, Nat.zero_le _⟩) hS (fun q _ h => hFc q h) hFc (fun r_ u_ t H locs ht hvm hw hB hz1 hk1 hS => ?_)
    have hw : r_ = q3 := hw
    have hw := hw.symm
    subst hw
    obtain ⟨hP, hD⟩ := x_join (ws' := [(h0, .inr (4, [.ref h1, .int v_blocks, .ref h2, .ref h3, .ref h4, .ref h5, .ref h6, .ref h7, .ref h8])), (h5, .inl (cI, 17, .inl v_firsts))]) hP hD [0, 1] [] rfl rfl (by decide) (by decide) hk1 hFc ht hB [0, 1] (by decide) rfl
    clear hPc hDc hFc hk1 hB ht hz1 hvm
    refine lv_if_ne (tgt := 18) hx hb dX4_errorOfFading_13 (by decide) (fun c4 => ?_) (fun c4 => ?_)
    · replace hd := ite_f c4 hd
      refine lv_iload_n hx hb dX4_errorOfFading_18 rfl (lv_at hl 2 rfl) ?_
      refine lv_iload_n hx hb dX4_errorOfFading_19 rfl (lv_at hl 1 rfl) ?_
      refine lv_icmp_lt (tgt := 33) hx hb dX4_errorOfFading_20 (by decide) (fun c5 => ?_) (fun c5 => ?_)
      · replace hd := ite_t c5 hd
        refine lv_bipush (v := -2) hx hb dX4_errorOfFading_33 (by decide) ?_
        refine lv_goto (tgt := 39) hx hb dX4_errorOfFading_35 (by decide) ?_
        cases hd
        exact hend (by rfl) hP hD hS dX4_errorOfFading_39
      · replace hd := ite_f c5 hd
        refine lv_iload_n hx hb dX4_errorOfFading_23 rfl (lv_at hl 3 rfl) ?_
        refine lv_if_lt (tgt := 33) hx hb dX4_errorOfFading_24 (by decide) (fun c6 => ?_) (fun c6 => ?_)
        · replace hd := ite_t c6 hd
          refine lv_bipush (v := -2) hx hb dX4_errorOfFading_33 (by decide) ?_
          refine lv_goto (tgt := 39) hx hb dX4_errorOfFading_35 (by decide) ?_
          cases hd
          exact hend (by rfl) hP hD hS dX4_errorOfFading_39
        · replace hd := ite_f c6 hd
          refine lv_iload_n hx hb dX4_errorOfFading_27 rfl (lv_at hl 3 rfl) ?_
          refine lv_bipush (v := 99) hx hb dX4_errorOfFading_28 (by decide) ?_
          refine lv_icmp_le (tgt := 38) hx hb dX4_errorOfFading_30 (by decide) (fun c7 => ?_) (fun c7 => ?_)
          · replace hd := ite_t c7 hd
            refine lv_iconst (v := 0) hx hb dX4_errorOfFading_38 (by decide) ?_
            cases hd
            exact hend (by rfl) hP hD hS dX4_errorOfFading_39
          · replace hd := ite_f c7 hd
            refine lv_bipush (v := -2) hx hb dX4_errorOfFading_33 (by decide) ?_
            refine lv_goto (tgt := 39) hx hb dX4_errorOfFading_35 (by decide) ?_
            cases hd
            exact hend (by rfl) hP hD hS dX4_errorOfFading_39
    · replace hd := ite_t c4 hd
      refine lv_iconst (v := -1) hx hb dX4_errorOfFading_16 (by decide) ?_
      cases hd
      exact hend (by rfl) hP hD hS dX4_errorOfFading_17
def rmX4_fadeCells : Room := { frames := 1, cells := 0, slots := 0, locals := 22 }
theorem kX4_fadeCells_1 : (Cond.fieldLink RX4 27 "CassetteTones$Tape" "volumes" "[I") ∈ wsX4_fadeCells := List.mem_of_getElem? (i := 1) (by decide +kernel)
theorem kX4_fadeCells_3 : (Cond.initialized RX6) ∈ wsX4_fadeCells := List.mem_of_getElem? (i := 3) (by decide +kernel)
theorem kX4_fadeCells_2 : (Cond.static yX6_valueAt) ∈ wsX4_fadeCells := List.mem_of_getElem? (i := 2) (by decide +kernel)
theorem kX4_fadeCells_5 : (Cond.static yX6_setValue) ∈ wsX4_fadeCells := List.mem_of_getElem? (i := 5) (by decide +kernel)
theorem inX4_fadeCells_X4 : ∀ w ∈ wsX40, w ∈ wsX4_fadeCells := by decide +kernel
theorem hp_X4_fadeCells : yX4_fadeCells.cls ≠ "java/lang/invoke/MethodHandle" ∧ yX4_fadeCells.cls ≠ "java/lang/invoke/VarHandle" ∧ (parseMethodDescriptor yX4_fadeCells.desc).map (fun d => d.parameters.length) = some 3 := by decide +kernel
theorem hv_X4_fadeCells : yX4_fadeCells.cls = RX4 ∧ yX4_fadeCells.cls ≠ "java/lang/invoke/MethodHandle" ∧ yX4_fadeCells.cls ≠ "java/lang/invoke/VarHandle" ∧ (parseMethodDescriptor yX4_fadeCells.desc).map (fun d => d.parameters.length) = some 3 := by decide +kernel
set_option maxHeartbeats 4000000 in
set_option maxRecDepth 100000 in
theorem c_X4_fadeCells (l : Launch) (dC : Nat → ClassId) (dI : Nat → Nat → Nat) (cI cC cT cL : ClassId) (h0 h1 h2 h3 h4 h5 h6 h7 h8 : Nat) (sz : Nat) (v_blocks : Int32) (v_volumes : (Nat → Int32)) (p1 : Int32) (p2 : Int32) (p3 : Int32) (r : (Int32 × (Nat → Int32))) (hd : den_X4_fadeCells v_volumes p1 p2 p3 = some r) : Met l yX4_fadeCells wsX4_fadeCells rmX4_fadeCells (va_Pc [.ref h0, .int p1, .int p2, .int p3] (preB sz (dC, dI) [(h0, .inr (4, [.ref h1, .int v_blocks, .ref h2, .ref h3, .ref h4, .ref h5, .ref h6, .ref h7, .ref h8])), (h6, .inl (cI, 2464, .inl v_volumes))] [(cI, .int), (cC, .char), (cT, .object "CassetteTones$Tape"), (cL, .long)])) (va_Qi (S := Unit) (fun v _ => v = r.1) (fun _ t => posB (dC, dI) [(h0, .inr (4, [.ref h1, .int v_blocks, .ref h2, .ref h3, .ref h4, .ref h5, .ref h6, .ref h7, .ref h8])), (h6, .inl (cI, 2464, .inl r.2))] [(cI, .int), (cC, .char), (cT, .object "CassetteTones$Tape"), (cL, .long)] (va_A [(h0, .inr (4, [.ref h1, .int v_blocks, .ref h2, .ref h3, .ref h4, .ref h5, .ref h6, .ref h7, .ref h8])), (h6, .inl (cI, 2464, .inl v_volumes))] sz) t) (va_A [(h0, .inr (4, [.ref h1, .int v_blocks, .ref h2, .ref h3, .ref h4, .ref h5, .ref h6, .ref h7, .ref h8])), (h6, .inl (cI, 2464, .inl v_volumes))] sz)) 0 0 (va_A [(h0, .inr (4, [.ref h1, .int v_blocks, .ref h2, .ref h3, .ref h4, .ref h5, .ref h6, .ref h7, .ref h8])), (h6, .inl (cI, 2464, .inl v_volumes))] sz) := by
  refine x_met_i (by decide) rfl (Nat.le_of_ble_eq_true rfl) ?_
  intro p e s m args below meth c A Q H locs ls hx hb hml hown hts hK hN hA hP hD hS hl hend
  have hown : s.vm.findClass RX4 = some m.cls := hown
  have hl : lv_has ls 6 [(0, .ref h0), (1, .int p1), (2, .int p2), (3, .int p3)] := hl
  unfold den_X4_fadeCells at hd
  refine lv_iconst (v := 0) hx hb dX4_fadeCells_0 (by decide) ?_
  refine lv_istore (lv' := [(4, .int (0 : Int32)), (0, .ref h0), (1, .int p1), (2, .int p2), (3, .int p3)]) hx hb dX4_fadeCells_1 hl (by decide) rfl (fun ls hl => ?_)
  refine lv_iload_n hx hb dX4_fadeCells_3 rfl (lv_at hl 2 rfl) ?_
  refine lv_istore (lv' := [(5, .int p1), (4, .int (0 : Int32)), (0, .ref h0), (1, .int p1), (2, .int p2), (3, .int p3)]) hx hb dX4_fadeCells_4 hl (by decide) rfl (fun ls hl => ?_)
  obtain ⟨q1, hq1, hd⟩ := bnd_some hd
  have Kq1 : ∀ (H : Heap) (locs : List Loc) (ls : Array Slot), va_P (dC, dI) vwCl [(h0, .inr (4, [.ref h1, .int v_blocks, .ref h2, .ref h3, .ref h4, .ref h5, .ref h6, .ref h7, .ref h8])), (h6, .inl (cI, 2464, .inl q1.2))] H → va_D A [(h0, .inr (4, [.ref h1, .int v_blocks, .ref h2, .ref h3, .ref h4, .ref h5, .ref h6, .ref h7, .ref h8])), (h6, .inl (cI, 2464, .inl q1.2))] → va_S A s.heap H locs → lv_has ls 6 [(4, .int q1.1)] → W p l e rmX4_fadeCells s m args below meth c H locs 0 0 Q (F0 m 44 ls []) := by
    intro H locs ls hP hD hS hl
    refine lv_iload hx hb dX4_fadeCells_44 (lv_at hl 0 rfl) ?_
    cases hd
    exact hend (by rfl) hP hD hS dX4_fadeCells_46
  clear hd
  have KL6 : ∀ (fu : Nat) (y4_6 : Int32) (y5_6 : Int32) (v_volumes_6 : (Nat → Int32)) (hd : den_X4_fadeCells_L6 p2 p3 fu y4_6 y5_6 v_volumes_6 = some q1) (H : Heap) (locs : List Loc) (ls : Array Slot), va_P (dC, dI) vwCl [(h0, .inr (4, [.ref h1, .int v_blocks, .ref h2, .ref h3, .ref h4, .ref h5, .ref h6, .ref h7, .ref h8])), (h6, .inl (cI, 2464, .inl v_volumes_6))] H → va_D A [(h0, .inr (4, [.ref h1, .int v_blocks, .ref h2, .ref h3, .ref h4, .ref h5, .ref h6, .ref h7, .ref h8])), (h6, .inl (cI, 2464, .inl v_volumes_6))] → va_S A s.heap H locs → lv_has ls 6 [(0, .ref h0), (2, .int p2), (3, .int p3), (4, .int y4_6), (5, .int y5_6)] → W p l e rmX4_fadeCells s m args below meth c H locs 0 0 Q (F0 m 6 ls []) := by
    intro fu
    induction fu with
    | zero => intro y4_6 y5_6 v_volumes_6 hd; exact no_some hd
    | succ fu ih =>
      intro y4_6 y5_6 v_volumes_6 hd H locs ls hP hD hS hl
      rw [den_X4_fadeCells_L6] at hd
      refine lv_iload hx hb dX4_fadeCells_6 (lv_at hl 4 rfl) ?_
      refine lv_iload_n hx hb dX4_fadeCells_8 rfl (lv_at hl 1 rfl) ?_
      refine lv_icmp_gt (tgt := 44) hx hb dX4_fadeCells_9 (by decide) (fun c2 => ?_) (fun c2 => ?_)
      · replace hd := ite_t c2 hd
        cases hd
        exact Kq1 _ _ _ hP hD hS (lv_sub hl [3] rfl)
      · replace hd := ite_f c2 hd
        refine lv_aload_n hx hb dX4_fadeCells_12 rfl (lv_at hl 0 rfl) ?_
        refine va_get (D := (dC, dI)) (ci := 4) (v := .ref h6) (C := RX4) (T := TX4) (N := 9) hx hb hts inX4_fadeCells_X4 hown hK hP 0 rfl rfl 6 (by decide) (hts _ kX4_fadeCells_1) (fun _ h9 => h9) rfl dX4_fadeCells_13 ?_
        refine lv_iload hx hb dX4_fadeCells_16 (lv_at hl 4 rfl) ?_
        obtain ⟨g3, hd⟩ := gd_some hd
        have hPc : va_P (dC, dI) vwCl [(h6, .inl (cI, 2464, .inl v_volumes_6))] _ := hP.sub [1] rfl
        have hDc := hD.sub (ws' := [(h6, .inl (cI, 2464, .inl v_volumes_6))]) [1] (by decide) rfl
        have hFc := va_free (wc := [(h6, .inl (cI, 2464, .inl v_volumes_6))]) hD hS hA [1] rfl
        refine va_calli (va_runSN (As := [.ref h6, .int y5_6]) (rest := []) ⟨hx, hb, hml, hown, hts⟩ (c_X6_valueAt l dC dI cI cC cT cL h6 2464 H.size v_volumes_6 y5_6 (v_volumes_6 y5_6.toNatClampNeg) (i_X6_valueAt (Nat.le_of_ble_eq_true rfl) g3 rfl)) ⟨(va_cnB 2 hts gX4_fadeCells_X6_valueAt_n59 rfl rfl rfl (nxw_24 hN) (hts _ kX4_fadeCells_3) hp_X6_valueAt ⟨Nat.le_of_ble_eq_true rfl, Nat.le_of_ble_eq_true rfl⟩), (hts _ kX4_fadeCells_2), trivial⟩ ⟨preB_fb, fun U hU hW => preB_mk hU hW hPc hK hDc hN⟩ rfl rfl hl.1 rfl (lv_room (Nat.le_of_ble_eq_true rfl)) dX4_fadeCells_18 ⟨Nat.zero_le _, Nat.zero_le _⟩) hS (fun q _ h => hFc q h) hFc (fun r_ u_ t H locs ht hvm hw hB hz1 hk1 hS => ?_)
        have hw : r_ = (v_volumes_6 y5_6.toNatClampNeg) := hw
        have hw := hw.symm
        subst hw
        obtain ⟨hP, hD⟩ := x_join (ws' := [(h0, .inr (4, [.ref h1, .int v_blocks, .ref h2, .ref h3, .ref h4, .ref h5, .ref h6, .ref h7, .ref h8])), (h6, .inl (cI, 2464, .inl v_volumes_6))]) hP hD [1] [0] rfl rfl (by decide) (by decide) hk1 hFc ht hB [0, 1] (by decide) rfl
        clear hPc hDc hFc hk1 hB ht hz1 hvm
        refine lv_iload_n hx hb dX4_fadeCells_21 rfl (lv_at hl 2 rfl) ?_
        refine lv_icmp_le (tgt := 38) hx hb dX4_fadeCells_22 (by decide) (fun c4 => ?_) (fun c4 => ?_)
        · replace hd := ite_t c4 hd
          refine lv_iinc (v := (y5_6 + (1 : Int32))) (lv' := [(5, .int (y5_6 + (1 : Int32))), (0, .ref h0), (2, .int p2), (3, .int p3), (4, .int y4_6)]) hx hb dX4_fadeCells_38 hl (k := 4) rfl (by first | rfl | decide) (by decide) rfl (fun ls hl => ?_)
          refine lv_goto (tgt := 6) hx hb dX4_fadeCells_41 (by decide) ?_
          exact ih y4_6 (y5_6 + (1 : Int32)) v_volumes_6 hd _ _ _ hP hD hS (lv_sub hl [1, 2, 3, 4, 0] rfl)
        · replace hd := ite_f c4 hd
          refine lv_aload_n hx hb dX4_fadeCells_25 rfl (lv_at hl 0 rfl) ?_
          refine va_get (D := (dC, dI)) (ci := 4) (v := .ref h6) (C := RX4) (T := TX4) (N := 9) hx hb hts inX4_fadeCells_X4 hown hK hP 0 rfl rfl 6 (by decide) (hts _ kX4_fadeCells_1) (fun _ h9 => h9) rfl dX4_fadeCells_26 ?_
          refine lv_iload hx hb dX4_fadeCells_29 (lv_at hl 4 rfl) ?_
          refine lv_iload_n hx hb dX4_fadeCells_31 rfl (lv_at hl 2 rfl) ?_
          obtain ⟨g5, hd⟩ := gd_some hd
          have hPc : va_P (dC, dI) vwCl [(h6, .inl (cI, 2464, .inl v_volumes_6))] _ := hP.sub [1] rfl
          have hDc := hD.sub (ws' := [(h6, .inl (cI, 2464, .inl v_volumes_6))]) [1] (by decide) rfl
          have hFc := va_free (wc := [(h6, .inl (cI, 2464, .inl v_volumes_6))]) hD hS hA [1] rfl
          refine va_callv (va_runSN (As := [.ref h6, .int y5_6, .int p3]) (rest := []) ⟨hx, hb, hml, hown, hts⟩ (c_X6_setValue l dC dI cI cC cT cL h6 2464 H.size v_volumes_6 y5_6 p3 (upd v_volumes_6 y5_6.toNatClampNeg p3) (i_X6_setValue (Nat.le_of_ble_eq_true rfl) g5 rfl)) ⟨(va_cnB 3 hts gX4_fadeCells_X6_setValue_n67 rfl rfl rfl (nxw_28 hN) (hts _ kX4_fadeCells_3) hp_X6_setValue ⟨Nat.le_of_ble_eq_true rfl, Nat.le_of_ble_eq_true rfl⟩), (hts _ kX4_fadeCells_5), trivial⟩ ⟨preB_fb, fun U hU hW => preB_mk hU hW hPc hK hDc hN⟩ rfl rfl hl.1 rfl (lv_room (Nat.le_of_ble_eq_true rfl)) dX4_fadeCells_32 ⟨Nat.zero_le _, Nat.zero_le _⟩) hS (fun q _ h => hFc q h) hFc (fun u_ t H locs ht hvm hw hB hz1 hk1 hS => ?_)
          obtain ⟨hP, hD⟩ := x_join (ws' := [(h0, .inr (4, [.ref h1, .int v_blocks, .ref h2, .ref h3, .ref h4, .ref h5, .ref h6, .ref h7, .ref h8])), (h6, .inl (cI, 2464, .inl (upd v_volumes_6 y5_6.toNatClampNeg p3)))]) hP hD [1] [0] rfl rfl (by decide) (by decide) hk1 hFc ht hB [0, 1] (by decide) rfl
          clear hPc hDc hFc hk1 hB ht hz1 hvm
          refine lv_iinc (v := (y4_6 + (1 : Int32))) (lv' := [(4, .int (y4_6 + (1 : Int32))), (0, .ref h0), (2, .int p2), (3, .int p3), (5, .int y5_6)]) hx hb dX4_fadeCells_35 hl (k := 3) rfl (by first | rfl | decide) (by decide) rfl (fun ls hl => ?_)
          refine lv_iinc (v := (y5_6 + (1 : Int32))) (lv' := [(5, .int (y5_6 + (1 : Int32))), (4, .int (y4_6 + (1 : Int32))), (0, .ref h0), (2, .int p2), (3, .int p3)]) hx hb dX4_fadeCells_38 hl (k := 4) rfl (by first | rfl | decide) (by decide) rfl (fun ls hl => ?_)
          refine lv_goto (tgt := 6) hx hb dX4_fadeCells_41 (by decide) ?_
          exact ih (y4_6 + (1 : Int32)) (y5_6 + (1 : Int32)) (upd v_volumes_6 y5_6.toNatClampNeg p3) hd _ _ _ hP hD hS (lv_sub hl [2, 3, 4, 1, 0] rfl)
  exact KL6 FU (0 : Int32) p1 v_volumes hq1 _ _ _ hP hD hS (lv_sub hl [2, 4, 5, 1, 0] rfl)
def rmX4_spoilCell : Room := { frames := 1, cells := 0, slots := 0, locals := 22 }
theorem kX4_spoilCell_1 : (Cond.fieldLink RX4 30 "CassetteTones$Tape" "bad" "[I") ∈ wsX4_spoilCell := List.mem_of_getElem? (i := 1) (by decide +kernel)
theorem kX4_spoilCell_3 : (Cond.initialized RX6) ∈ wsX4_spoilCell := List.mem_of_getElem? (i := 3) (by decide +kernel)
theorem kX4_spoilCell_2 : (Cond.static yX6_valueAt) ∈ wsX4_spoilCell := List.mem_of_getElem? (i := 2) (by decide +kernel)
theorem kX4_spoilCell_5 : (Cond.static yX6_setValue) ∈ wsX4_spoilCell := List.mem_of_getElem? (i := 5) (by decide +kernel)
theorem inX4_spoilCell_X4 : ∀ w ∈ wsX40, w ∈ wsX4_spoilCell := by decide +kernel
theorem hp_X4_spoilCell : yX4_spoilCell.cls ≠ "java/lang/invoke/MethodHandle" ∧ yX4_spoilCell.cls ≠ "java/lang/invoke/VarHandle" ∧ (parseMethodDescriptor yX4_spoilCell.desc).map (fun d => d.parameters.length) = some 1 := by decide +kernel
theorem hv_X4_spoilCell : yX4_spoilCell.cls = RX4 ∧ yX4_spoilCell.cls ≠ "java/lang/invoke/MethodHandle" ∧ yX4_spoilCell.cls ≠ "java/lang/invoke/VarHandle" ∧ (parseMethodDescriptor yX4_spoilCell.desc).map (fun d => d.parameters.length) = some 1 := by decide +kernel
set_option maxHeartbeats 4000000 in
set_option maxRecDepth 100000 in
theorem c_X4_spoilCell (l : Launch) (dC : Nat → ClassId) (dI : Nat → Nat → Nat) (cI cC cT cL : ClassId) (h0 h1 h2 h3 h4 h5 h6 h7 h8 : Nat) (sz : Nat) (v_blocks : Int32) (v_bad : (Nat → Int32)) (p1 : Int32) (r : (Int32 × (Nat → Int32))) (hd : den_X4_spoilCell v_bad p1 = some r) : Met l yX4_spoilCell wsX4_spoilCell rmX4_spoilCell (va_Pc [.ref h0, .int p1] (preB sz (dC, dI) [(h0, .inr (4, [.ref h1, .int v_blocks, .ref h2, .ref h3, .ref h4, .ref h5, .ref h6, .ref h7, .ref h8])), (h7, .inl (cI, 2464, .inl v_bad))] [(cI, .int), (cC, .char), (cT, .object "CassetteTones$Tape"), (cL, .long)])) (va_Qi (S := Unit) (fun v _ => v = r.1) (fun _ t => posB (dC, dI) [(h0, .inr (4, [.ref h1, .int v_blocks, .ref h2, .ref h3, .ref h4, .ref h5, .ref h6, .ref h7, .ref h8])), (h7, .inl (cI, 2464, .inl r.2))] [(cI, .int), (cC, .char), (cT, .object "CassetteTones$Tape"), (cL, .long)] (va_A [(h0, .inr (4, [.ref h1, .int v_blocks, .ref h2, .ref h3, .ref h4, .ref h5, .ref h6, .ref h7, .ref h8])), (h7, .inl (cI, 2464, .inl v_bad))] sz) t) (va_A [(h0, .inr (4, [.ref h1, .int v_blocks, .ref h2, .ref h3, .ref h4, .ref h5, .ref h6, .ref h7, .ref h8])), (h7, .inl (cI, 2464, .inl v_bad))] sz)) 0 0 (va_A [(h0, .inr (4, [.ref h1, .int v_blocks, .ref h2, .ref h3, .ref h4, .ref h5, .ref h6, .ref h7, .ref h8])), (h7, .inl (cI, 2464, .inl v_bad))] sz) := by
  refine x_met_i (by decide) rfl (Nat.le_of_ble_eq_true rfl) ?_
  intro p e s m args below meth c A Q H locs ls hx hb hml hown hts hK hN hA hP hD hS hl hend
  have hown : s.vm.findClass RX4 = some m.cls := hown
  have hl : lv_has ls 3 [(0, .ref h0), (1, .int p1)] := hl
  unfold den_X4_spoilCell at hd
  refine lv_iconst (v := 1) hx hb dX4_spoilCell_0 (by decide) ?_
  refine lv_aload_n hx hb dX4_spoilCell_1 rfl (lv_at hl 0 rfl) ?_
  refine va_get (D := (dC, dI)) (ci := 4) (v := .ref h7) (C := RX4) (T := TX4) (N := 9) hx hb hts inX4_spoilCell_X4 hown hK hP 0 rfl rfl 7 (by decide) (hts _ kX4_spoilCell_1) (fun _ h9 => h9) rfl dX4_spoilCell_2 ?_
  refine lv_iload_n hx hb dX4_spoilCell_5 rfl (lv_at hl 1 rfl) ?_
  obtain ⟨g1, hd⟩ := gd_some hd
  have hPc : va_P (dC, dI) vwCl [(h7, .inl (cI, 2464, .inl v_bad))] _ := hP.sub [1] rfl
  have hDc := hD.sub (ws' := [(h7, .inl (cI, 2464, .inl v_bad))]) [1] (by decide) rfl
  have hFc := va_free (wc := [(h7, .inl (cI, 2464, .inl v_bad))]) hD hS hA [1] rfl
  refine va_calli (va_runSN (As := [.ref h7, .int p1]) (rest := [.int (1 : Int32)]) ⟨hx, hb, hml, hown, hts⟩ (c_X6_valueAt l dC dI cI cC cT cL h7 2464 H.size v_bad p1 (v_bad p1.toNatClampNeg) (i_X6_valueAt (Nat.le_of_ble_eq_true rfl) g1 rfl)) ⟨(va_cnB 2 hts gX4_spoilCell_X6_valueAt_n59 rfl rfl rfl (nxw_24 hN) (hts _ kX4_spoilCell_3) hp_X6_valueAt ⟨Nat.le_of_ble_eq_true rfl, Nat.le_of_ble_eq_true rfl⟩), (hts _ kX4_spoilCell_2), trivial⟩ ⟨preB_fb, fun U hU hW => preB_mk hU hW hPc hK hDc hN⟩ rfl rfl hl.1 rfl (lv_room (Nat.le_of_ble_eq_true rfl)) dX4_spoilCell_6 ⟨Nat.zero_le _, Nat.zero_le _⟩) hS (fun q _ h => hFc q h) hFc (fun r_ u_ t H locs ht hvm hw hB hz1 hk1 hS => ?_)
  have hw : r_ = (v_bad p1.toNatClampNeg) := hw
  have hw := hw.symm
  subst hw
  obtain ⟨hP, hD⟩ := x_join (ws' := [(h0, .inr (4, [.ref h1, .int v_blocks, .ref h2, .ref h3, .ref h4, .ref h5, .ref h6, .ref h7, .ref h8])), (h7, .inl (cI, 2464, .inl v_bad))]) hP hD [1] [0] rfl rfl (by decide) (by decide) hk1 hFc ht hB [0, 1] (by decide) rfl
  clear hPc hDc hFc hk1 hB ht hz1 hvm
  refine lv_isub hx hb dX4_spoilCell_9 ?_
  refine lv_istore_n (lv' := [(2, .int ((1 : Int32) - (v_bad p1.toNatClampNeg))), (0, .ref h0), (1, .int p1)]) hx hb dX4_spoilCell_10 rfl hl (by decide) rfl (fun ls hl => ?_)
  refine lv_aload_n hx hb dX4_spoilCell_11 rfl (lv_at hl 1 rfl) ?_
  refine va_get (D := (dC, dI)) (ci := 4) (v := .ref h7) (C := RX4) (T := TX4) (N := 9) hx hb hts inX4_spoilCell_X4 hown hK hP 0 rfl rfl 7 (by decide) (hts _ kX4_spoilCell_1) (fun _ h9 => h9) rfl dX4_spoilCell_12 ?_
  refine lv_iload_n hx hb dX4_spoilCell_15 rfl (lv_at hl 2 rfl) ?_
  refine lv_iload_n hx hb dX4_spoilCell_16 rfl (lv_at hl 0 rfl) ?_
  obtain ⟨g2, hd⟩ := gd_some hd
  have hPc : va_P (dC, dI) vwCl [(h7, .inl (cI, 2464, .inl v_bad))] _ := hP.sub [1] rfl
  have hDc := hD.sub (ws' := [(h7, .inl (cI, 2464, .inl v_bad))]) [1] (by decide) rfl
  have hFc := va_free (wc := [(h7, .inl (cI, 2464, .inl v_bad))]) hD hS hA [1] rfl
  refine va_callv (va_runSN (As := [.ref h7, .int p1, .int ((1 : Int32) - (v_bad p1.toNatClampNeg))]) (rest := []) ⟨hx, hb, hml, hown, hts⟩ (c_X6_setValue l dC dI cI cC cT cL h7 2464 H.size v_bad p1 ((1 : Int32) - (v_bad p1.toNatClampNeg)) (upd v_bad p1.toNatClampNeg ((1 : Int32) - (v_bad p1.toNatClampNeg))) (i_X6_setValue (Nat.le_of_ble_eq_true rfl) g2 rfl)) ⟨(va_cnB 3 hts gX4_spoilCell_X6_setValue_n67 rfl rfl rfl (nxw_28 hN) (hts _ kX4_spoilCell_3) hp_X6_setValue ⟨Nat.le_of_ble_eq_true rfl, Nat.le_of_ble_eq_true rfl⟩), (hts _ kX4_spoilCell_5), trivial⟩ ⟨preB_fb, fun U hU hW => preB_mk hU hW hPc hK hDc hN⟩ rfl rfl hl.1 rfl (lv_room (Nat.le_of_ble_eq_true rfl)) dX4_spoilCell_17 ⟨Nat.zero_le _, Nat.zero_le _⟩) hS (fun q _ h => hFc q h) hFc (fun u_ t H locs ht hvm hw hB hz1 hk1 hS => ?_)
  obtain ⟨hP, hD⟩ := x_join (ws' := [(h0, .inr (4, [.ref h1, .int v_blocks, .ref h2, .ref h3, .ref h4, .ref h5, .ref h6, .ref h7, .ref h8])), (h7, .inl (cI, 2464, .inl (upd v_bad p1.toNatClampNeg ((1 : Int32) - (v_bad p1.toNatClampNeg)))))]) hP hD [1] [0] rfl rfl (by decide) (by decide) hk1 hFc ht hB [0, 1] (by decide) rfl
  clear hPc hDc hFc hk1 hB ht hz1 hvm
  refine lv_iload_n hx hb dX4_spoilCell_20 rfl (lv_at hl 0 rfl) ?_
  cases hd
  exact hend (by rfl) hP hD hS dX4_spoilCell_21
def rmX4_silentCells : Room := { frames := 2, cells := 0, slots := 0, locals := 42 }
theorem kX4_silentCells_1 : (Cond.fieldLink RX4 27 "CassetteTones$Tape" "volumes" "[I") ∈ wsX4_silentCells := List.mem_of_getElem? (i := 1) (by decide +kernel)
theorem kX4_silentCells_10 : (Cond.initialized RX6) ∈ wsX4_silentCells := List.mem_of_getElem? (i := 10) (by decide +kernel)
theorem kX4_silentCells_9 : (Cond.static yX6_valueAt) ∈ wsX4_silentCells := List.mem_of_getElem? (i := 9) (by decide +kernel)
theorem inX4_silentCells_X4 : ∀ w ∈ wsX40, w ∈ wsX4_silentCells := by decide +kernel
theorem hp_X4_silentCells : yX4_silentCells.cls ≠ "java/lang/invoke/MethodHandle" ∧ yX4_silentCells.cls ≠ "java/lang/invoke/VarHandle" ∧ (parseMethodDescriptor yX4_silentCells.desc).map (fun d => d.parameters.length) = some 0 := by decide +kernel
theorem hv_X4_silentCells : yX4_silentCells.cls = RX4 ∧ yX4_silentCells.cls ≠ "java/lang/invoke/MethodHandle" ∧ yX4_silentCells.cls ≠ "java/lang/invoke/VarHandle" ∧ (parseMethodDescriptor yX4_silentCells.desc).map (fun d => d.parameters.length) = some 0 := by decide +kernel
set_option maxHeartbeats 4000000 in
set_option maxRecDepth 100000 in
theorem c_X4_silentCells (l : Launch) (dC : Nat → ClassId) (dI : Nat → Nat → Nat) (cI cC cT cL : ClassId) (h0 h1 h2 h3 h4 h5 h6 h7 h8 : Nat) (sz : Nat) (v_settings : (Nat → Int32)) (v_blocks : Int32) (v_firsts : (Nat → Int32)) (v_volumes : (Nat → Int32)) (r : Int32) (hd : den_X4_silentCells v_settings v_blocks v_firsts v_volumes = some r) : Met l yX4_silentCells wsX4_silentCells rmX4_silentCells (va_Pc [.ref h0] (preB sz (dC, dI) [(h0, .inr (4, [.ref h1, .int v_blocks, .ref h2, .ref h3, .ref h4, .ref h5, .ref h6, .ref h7, .ref h8])), (h1, .inl (cI, 3, .inl v_settings)), (h5, .inl (cI, 17, .inl v_firsts)), (h6, .inl (cI, 2464, .inl v_volumes))] [(cI, .int), (cC, .char), (cT, .object "CassetteTones$Tape"), (cL, .long)])) (va_Qi (S := Unit) (fun v _ => v = r) (fun _ t => posB (dC, dI) [(h0, .inr (4, [.ref h1, .int v_blocks, .ref h2, .ref h3, .ref h4, .ref h5, .ref h6, .ref h7, .ref h8])), (h1, .inl (cI, 3, .inl v_settings)), (h5, .inl (cI, 17, .inl v_firsts)), (h6, .inl (cI, 2464, .inl v_volumes))] [(cI, .int), (cC, .char), (cT, .object "CassetteTones$Tape"), (cL, .long)] (va_A [(h0, .inr (4, [.ref h1, .int v_blocks, .ref h2, .ref h3, .ref h4, .ref h5, .ref h6, .ref h7, .ref h8])), (h1, .inl (cI, 3, .inl v_settings)), (h5, .inl (cI, 17, .inl v_firsts)), (h6, .inl (cI, 2464, .inl v_volumes))] sz) t) (va_A [(h0, .inr (4, [.ref h1, .int v_blocks, .ref h2, .ref h3, .ref h4, .ref h5, .ref h6, .ref h7, .ref h8])), (h1, .inl (cI, 3, .inl v_settings)), (h5, .inl (cI, 17, .inl v_firsts)), (h6, .inl (cI, 2464, .inl v_volumes))] sz)) 0 0 (va_A [(h0, .inr (4, [.ref h1, .int v_blocks, .ref h2, .ref h3, .ref h4, .ref h5, .ref h6, .ref h7, .ref h8])), (h1, .inl (cI, 3, .inl v_settings)), (h5, .inl (cI, 17, .inl v_firsts)), (h6, .inl (cI, 2464, .inl v_volumes))] sz) := by
  refine x_met_i (by decide) rfl (Nat.le_of_ble_eq_true rfl) ?_
  intro p e s m args below meth c A Q H locs ls hx hb hml hown hts hK hN hA hP hD hS hl hend
  have hown : s.vm.findClass RX4 = some m.cls := hown
  have hl : lv_has ls 4 [(0, .ref h0)] := hl
  unfold den_X4_silentCells at hd
  refine lv_iconst (v := 0) hx hb dX4_silentCells_0 (by decide) ?_
  refine lv_istore_n (lv' := [(1, .int (0 : Int32)), (0, .ref h0)]) hx hb dX4_silentCells_1 rfl hl (by decide) rfl (fun ls hl => ?_)
  refine lv_aload_n hx hb dX4_silentCells_2 rfl (lv_at hl 1 rfl) ?_
  obtain ⟨q1, hq1, hd⟩ := bnd_some hd
  have hPc : va_P (dC, dI) vwCl [(h0, .inr (4, [.ref h1, .int v_blocks, .ref h2, .ref h3, .ref h4, .ref h5, .ref h6, .ref h7, .ref h8])), (h5, .inl (cI, 17, .inl v_firsts))] _ := hP.sub [0, 2] rfl
  have hDc := hD.sub (ws' := [(h0, .inr (4, [.ref h1, .int v_blocks, .ref h2, .ref h3, .ref h4, .ref h5, .ref h6, .ref h7, .ref h8])), (h5, .inl (cI, 17, .inl v_firsts))]) [0, 2] (by decide) rfl
  have hFc := va_free (wc := [(h0, .inr (4, [.ref h1, .int v_blocks, .ref h2, .ref h3, .ref h4, .ref h5, .ref h6, .ref h7, .ref h8])), (h5, .inl (cI, 17, .inl v_firsts))]) hD hS hA [0, 2] rfl
  refine va_calli (va_runV (As := []) (rest := []) ⟨hx, hb, hml, hown, hts⟩ (c_X4_cells l dC dI cI cC cT cL h0 h1 h2 h3 h4 h5 h6 h7 h8 H.size v_blocks v_firsts q1 hq1) (cwV 0 hts gX4_silentCells_X4_cells rfl rfl rfl hv_X4_cells ⟨Nat.le_of_ble_eq_true rfl, Nat.le_of_ble_eq_true rfl⟩) ⟨preB_fb, va_recv hK hPc (ci := 4) (q0 := 0) rfl rfl, fun U hU hW => preB_mk hU hW hPc hK hDc hN⟩ rfl rfl hl.1 rfl (lv_room (Nat.le_of_ble_eq_true rfl)) dX4_silentCells_3 ⟨Nat.zero_le _, Nat.zero_le _⟩) hS (fun q _ h => hFc q h) hFc (fun r_ u_ t H locs ht hvm hw hB hz1 hk1 hS => ?_)
  have hw : r_ = q1 := hw
  have hw := hw.symm
  subst hw
  obtain ⟨hP, hD⟩ := x_join (ws' := [(h0, .inr (4, [.ref h1, .int v_blocks, .ref h2, .ref h3, .ref h4, .ref h5, .ref h6, .ref h7, .ref h8])), (h1, .inl (cI, 3, .inl v_settings)), (h5, .inl (cI, 17, .inl v_firsts)), (h6, .inl (cI, 2464, .inl v_volumes))]) hP hD [0, 2] [1, 3] rfl rfl (by decide) (by decide) hk1 hFc ht hB [2, 0, 3, 1] (by decide) rfl
  clear hPc hDc hFc hk1 hB ht hz1 hvm
  refine lv_istore_n (lv' := [(2, .int q1), (1, .int (0 : Int32)), (0, .ref h0)]) hx hb dX4_silentCells_6 rfl hl (by decide) rfl (fun ls hl => ?_)
  refine lv_iconst (v := 0) hx hb dX4_silentCells_7 (by decide) ?_
  refine lv_istore_n (lv' := [(3, .int (0 : Int32)), (2, .int q1), (1, .int (0 : Int32)), (0, .ref h0)]) hx hb dX4_silentCells_8 rfl hl (by decide) rfl (fun ls hl => ?_)
  obtain ⟨q2, hq2, hd⟩ := bnd_some hd
  have Kq2 : ∀ (H : Heap) (locs : List Loc) (ls : Array Slot), va_P (dC, dI) vwCl [(h0, .inr (4, [.ref h1, .int v_blocks, .ref h2, .ref h3, .ref h4, .ref h5, .ref h6, .ref h7, .ref h8])), (h1, .inl (cI, 3, .inl v_settings)), (h5, .inl (cI, 17, .inl v_firsts)), (h6, .inl (cI, 2464, .inl v_volumes))] H → va_D A [(h0, .inr (4, [.ref h1, .int v_blocks, .ref h2, .ref h3, .ref h4, .ref h5, .ref h6, .ref h7, .ref h8])), (h1, .inl (cI, 3, .inl v_settings)), (h5, .inl (cI, 17, .inl v_firsts)), (h6, .inl (cI, 2464, .inl v_volumes))] → va_S A s.heap H locs → lv_has ls 4 [(1, .int q2)] → W p l e rmX4_silentCells s m args below meth c H locs 0 0 Q (F0 m 39 ls []) := by
    intro H locs ls hP hD hS hl
    refine lv_iload_n hx hb dX4_silentCells_39 rfl (lv_at hl 0 rfl) ?_
    cases hd
    exact hend (by rfl) hP hD hS dX4_silentCells_40
  clear hd
  have KL6 : ∀ (fu : Nat) (y1_9 : Int32) (y3_9 : Int32) (hd : den_X4_silentCells_L9 v_settings v_volumes q1 fu y1_9 y3_9 = some q2) (H : Heap) (locs : List Loc) (ls : Array Slot), va_P (dC, dI) vwCl [(h0, .inr (4, [.ref h1, .int v_blocks, .ref h2, .ref h3, .ref h4, .ref h5, .ref h6, .ref h7, .ref h8])), (h1, .inl (cI, 3, .inl v_settings)), (h5, .inl (cI, 17, .inl v_firsts)), (h6, .inl (cI, 2464, .inl v_volumes))] H → va_D A [(h0, .inr (4, [.ref h1, .int v_blocks, .ref h2, .ref h3, .ref h4, .ref h5, .ref h6, .ref h7, .ref h8])), (h1, .inl (cI, 3, .inl v_settings)), (h5, .inl (cI, 17, .inl v_firsts)), (h6, .inl (cI, 2464, .inl v_volumes))] → va_S A s.heap H locs → lv_has ls 4 [(0, .ref h0), (1, .int y1_9), (2, .int q1), (3, .int y3_9)] → W p l e rmX4_silentCells s m args below meth c H locs 0 0 Q (F0 m 9 ls []) := by
    intro fu
    induction fu with
    | zero => intro y1_9 y3_9 hd; exact no_some hd
    | succ fu ih =>
      intro y1_9 y3_9 hd H locs ls hP hD hS hl
      rw [den_X4_silentCells_L9] at hd
      refine lv_iload_n hx hb dX4_silentCells_9 rfl (lv_at hl 3 rfl) ?_
      refine lv_iload_n hx hb dX4_silentCells_10 rfl (lv_at hl 2 rfl) ?_
      refine lv_icmp_ge (tgt := 39) hx hb dX4_silentCells_11 (by decide) (fun c3 => ?_) (fun c3 => ?_)
      · replace hd := ite_t c3 hd
        cases hd
        exact Kq2 _ _ _ hP hD hS (lv_sub hl [1] rfl)
      · replace hd := ite_f c3 hd
        refine lv_aload_n hx hb dX4_silentCells_14 rfl (lv_at hl 0 rfl) ?_
        refine va_get (D := (dC, dI)) (ci := 4) (v := .ref h6) (C := RX4) (T := TX4) (N := 9) hx hb hts inX4_silentCells_X4 hown hK hP 0 rfl rfl 6 (by decide) (hts _ kX4_silentCells_1) (fun _ h9 => h9) rfl dX4_silentCells_15 ?_
        refine lv_iload_n hx hb dX4_silentCells_18 rfl (lv_at hl 3 rfl) ?_
        obtain ⟨g4, hd⟩ := gd_some hd
        have hPc : va_P (dC, dI) vwCl [(h6, .inl (cI, 2464, .inl v_volumes))] _ := hP.sub [3] rfl
        have hDc := hD.sub (ws' := [(h6, .inl (cI, 2464, .inl v_volumes))]) [3] (by decide) rfl
        have hFc := va_free (wc := [(h6, .inl (cI, 2464, .inl v_volumes))]) hD hS hA [3] rfl
        refine va_calli (va_runSN (As := [.ref h6, .int y3_9]) (rest := []) ⟨hx, hb, hml, hown, hts⟩ (c_X6_valueAt l dC dI cI cC cT cL h6 2464 H.size v_volumes y3_9 (v_volumes y3_9.toNatClampNeg) (i_X6_valueAt (Nat.le_of_ble_eq_true rfl) g4 rfl)) ⟨(va_cnB 2 hts gX4_silentCells_X6_valueAt_n59 rfl rfl rfl (nxw_24 hN) (hts _ kX4_silentCells_10) hp_X6_valueAt ⟨Nat.le_of_ble_eq_true rfl, Nat.le_of_ble_eq_true rfl⟩), (hts _ kX4_silentCells_9), trivial⟩ ⟨preB_fb, fun U hU hW => preB_mk hU hW hPc hK hDc hN⟩ rfl rfl hl.1 rfl (lv_room (Nat.le_of_ble_eq_true rfl)) dX4_silentCells_19 ⟨Nat.zero_le _, Nat.zero_le _⟩) hS (fun q _ h => hFc q h) hFc (fun r_ u_ t H locs ht hvm hw hB hz1 hk1 hS => ?_)
        have hw : r_ = (v_volumes y3_9.toNatClampNeg) := hw
        have hw := hw.symm
        subst hw
        obtain ⟨hP, hD⟩ := x_join (ws' := [(h0, .inr (4, [.ref h1, .int v_blocks, .ref h2, .ref h3, .ref h4, .ref h5, .ref h6, .ref h7, .ref h8])), (h1, .inl (cI, 3, .inl v_settings)), (h5, .inl (cI, 17, .inl v_firsts)), (h6, .inl (cI, 2464, .inl v_volumes))]) hP hD [3] [0, 1, 2] rfl rfl (by decide) (by decide) hk1 hFc ht hB [0, 1, 2, 3] (by decide) rfl
        clear hPc hDc hFc hk1 hB ht hz1 hvm
        refine lv_aload_n hx hb dX4_silentCells_22 rfl (lv_at hl 0 rfl) ?_
        refine lv_iconst (v := 1) hx hb dX4_silentCells_23 (by decide) ?_
        have hPc : va_P (dC, dI) vwCl [(h0, .inr (4, [.ref h1, .int v_blocks, .ref h2, .ref h3, .ref h4, .ref h5, .ref h6, .ref h7, .ref h8])), (h1, .inl (cI, 3, .inl v_settings))] _ := hP.sub [0, 1] rfl
        have hDc := hD.sub (ws' := [(h0, .inr (4, [.ref h1, .int v_blocks, .ref h2, .ref h3, .ref h4, .ref h5, .ref h6, .ref h7, .ref h8])), (h1, .inl (cI, 3, .inl v_settings))]) [0, 1] (by decide) rfl
        have hFc := va_free (wc := [(h0, .inr (4, [.ref h1, .int v_blocks, .ref h2, .ref h3, .ref h4, .ref h5, .ref h6, .ref h7, .ref h8])), (h1, .inl (cI, 3, .inl v_settings))]) hD hS hA [0, 1] rfl
        refine va_calli (va_runV (As := [.int (1 : Int32)]) (rest := [.int (v_volumes y3_9.toNatClampNeg)]) ⟨hx, hb, hml, hown, hts⟩ (c_X4_setting l dC dI cI cC cT cL h0 h1 h2 h3 h4 h5 h6 h7 h8 H.size v_settings v_blocks (1 : Int32) (v_settings 1) (i_X4_setting (by decide) rfl)) (cwV 1 hts gX4_silentCells_X4_setting rfl rfl rfl hv_X4_setting ⟨Nat.le_of_ble_eq_true rfl, Nat.le_of_ble_eq_true rfl⟩) ⟨preB_fb, va_recv hK hPc (ci := 4) (q0 := 0) rfl rfl, fun U hU hW => preB_mk hU hW hPc hK hDc hN⟩ rfl rfl hl.1 rfl (lv_room (Nat.le_of_ble_eq_true rfl)) dX4_silentCells_24 ⟨Nat.zero_le _, Nat.zero_le _⟩) hS (fun q _ h => hFc q h) hFc (fun r_ u_ t H locs ht hvm hw hB hz1 hk1 hS => ?_)
        have hw : r_ = (v_settings 1) := hw
        have hw := hw.symm
        subst hw
        obtain ⟨hP, hD⟩ := x_join (ws' := [(h0, .inr (4, [.ref h1, .int v_blocks, .ref h2, .ref h3, .ref h4, .ref h5, .ref h6, .ref h7, .ref h8])), (h1, .inl (cI, 3, .inl v_settings)), (h5, .inl (cI, 17, .inl v_firsts)), (h6, .inl (cI, 2464, .inl v_volumes))]) hP hD [0, 1] [2, 3] rfl rfl (by decide) (by decide) hk1 hFc ht hB [2, 3, 0, 1] (by decide) rfl
        clear hPc hDc hFc hk1 hB ht hz1 hvm
        refine lv_icmp_ge (tgt := 33) hx hb dX4_silentCells_27 (by decide) (fun c5 => ?_) (fun c5 => ?_)
        · replace hd := ite_t c5 hd
          refine lv_iinc (v := (y3_9 + (1 : Int32))) (lv' := [(3, .int (y3_9 + (1 : Int32))), (0, .ref h0), (1, .int y1_9), (2, .int q1)]) hx hb dX4_silentCells_33 hl (k := 3) rfl (by first | rfl | decide) (by decide) rfl (fun ls hl => ?_)
          refine lv_goto (tgt := 9) hx hb dX4_silentCells_36 (by decide) ?_
          exact ih y1_9 (y3_9 + (1 : Int32)) hd _ _ _ hP hD hS (lv_sub hl [1, 2, 3, 0] rfl)
        · replace hd := ite_f c5 hd
          refine lv_iinc (v := (y1_9 + (1 : Int32))) (lv' := [(1, .int (y1_9 + (1 : Int32))), (0, .ref h0), (2, .int q1), (3, .int y3_9)]) hx hb dX4_silentCells_30 hl (k := 1) rfl (by first | rfl | decide) (by decide) rfl (fun ls hl => ?_)
          refine lv_iinc (v := (y3_9 + (1 : Int32))) (lv' := [(3, .int (y3_9 + (1 : Int32))), (1, .int (y1_9 + (1 : Int32))), (0, .ref h0), (2, .int q1)]) hx hb dX4_silentCells_33 hl (k := 3) rfl (by first | rfl | decide) (by decide) rfl (fun ls hl => ?_)
          refine lv_goto (tgt := 9) hx hb dX4_silentCells_36 (by decide) ?_
          exact ih (y1_9 + (1 : Int32)) (y3_9 + (1 : Int32)) hd _ _ _ hP hD hS (lv_sub hl [2, 1, 3, 0] rfl)
  exact KL6 FU (0 : Int32) (0 : Int32) hq2 _ _ _ hP hD hS (lv_sub hl [3, 2, 1, 0] rfl)
def rmX4_badCells : Room := { frames := 2, cells := 0, slots := 0, locals := 41 }
theorem kX4_badCells_1 : (Cond.fieldLink RX4 30 "CassetteTones$Tape" "bad" "[I") ∈ wsX4_badCells := List.mem_of_getElem? (i := 1) (by decide +kernel)
theorem kX4_badCells_10 : (Cond.initialized RX6) ∈ wsX4_badCells := List.mem_of_getElem? (i := 10) (by decide +kernel)
theorem kX4_badCells_9 : (Cond.static yX6_valueAt) ∈ wsX4_badCells := List.mem_of_getElem? (i := 9) (by decide +kernel)
theorem inX4_badCells_X4 : ∀ w ∈ wsX40, w ∈ wsX4_badCells := by decide +kernel
theorem hp_X4_badCells : yX4_badCells.cls ≠ "java/lang/invoke/MethodHandle" ∧ yX4_badCells.cls ≠ "java/lang/invoke/VarHandle" ∧ (parseMethodDescriptor yX4_badCells.desc).map (fun d => d.parameters.length) = some 0 := by decide +kernel
theorem hv_X4_badCells : yX4_badCells.cls = RX4 ∧ yX4_badCells.cls ≠ "java/lang/invoke/MethodHandle" ∧ yX4_badCells.cls ≠ "java/lang/invoke/VarHandle" ∧ (parseMethodDescriptor yX4_badCells.desc).map (fun d => d.parameters.length) = some 0 := by decide +kernel
set_option maxHeartbeats 4000000 in
set_option maxRecDepth 100000 in
theorem c_X4_badCells (l : Launch) (dC : Nat → ClassId) (dI : Nat → Nat → Nat) (cI cC cT cL : ClassId) (h0 h1 h2 h3 h4 h5 h6 h7 h8 : Nat) (sz : Nat) (v_blocks : Int32) (v_firsts : (Nat → Int32)) (v_bad : (Nat → Int32)) (r : Int32) (hd : den_X4_badCells v_blocks v_firsts v_bad = some r) : Met l yX4_badCells wsX4_badCells rmX4_badCells (va_Pc [.ref h0] (preB sz (dC, dI) [(h0, .inr (4, [.ref h1, .int v_blocks, .ref h2, .ref h3, .ref h4, .ref h5, .ref h6, .ref h7, .ref h8])), (h5, .inl (cI, 17, .inl v_firsts)), (h7, .inl (cI, 2464, .inl v_bad))] [(cI, .int), (cC, .char), (cT, .object "CassetteTones$Tape"), (cL, .long)])) (va_Qi (S := Unit) (fun v _ => v = r) (fun _ t => posB (dC, dI) [(h0, .inr (4, [.ref h1, .int v_blocks, .ref h2, .ref h3, .ref h4, .ref h5, .ref h6, .ref h7, .ref h8])), (h5, .inl (cI, 17, .inl v_firsts)), (h7, .inl (cI, 2464, .inl v_bad))] [(cI, .int), (cC, .char), (cT, .object "CassetteTones$Tape"), (cL, .long)] (va_A [(h0, .inr (4, [.ref h1, .int v_blocks, .ref h2, .ref h3, .ref h4, .ref h5, .ref h6, .ref h7, .ref h8])), (h5, .inl (cI, 17, .inl v_firsts)), (h7, .inl (cI, 2464, .inl v_bad))] sz) t) (va_A [(h0, .inr (4, [.ref h1, .int v_blocks, .ref h2, .ref h3, .ref h4, .ref h5, .ref h6, .ref h7, .ref h8])), (h5, .inl (cI, 17, .inl v_firsts)), (h7, .inl (cI, 2464, .inl v_bad))] sz)) 0 0 (va_A [(h0, .inr (4, [.ref h1, .int v_blocks, .ref h2, .ref h3, .ref h4, .ref h5, .ref h6, .ref h7, .ref h8])), (h5, .inl (cI, 17, .inl v_firsts)), (h7, .inl (cI, 2464, .inl v_bad))] sz) := by
  refine x_met_i (by decide) rfl (Nat.le_of_ble_eq_true rfl) ?_
  intro p e s m args below meth c A Q H locs ls hx hb hml hown hts hK hN hA hP hD hS hl hend
  have hown : s.vm.findClass RX4 = some m.cls := hown
  have hl : lv_has ls 4 [(0, .ref h0)] := hl
  unfold den_X4_badCells at hd
  refine lv_iconst (v := 0) hx hb dX4_badCells_0 (by decide) ?_
  refine lv_istore_n (lv' := [(1, .int (0 : Int32)), (0, .ref h0)]) hx hb dX4_badCells_1 rfl hl (by decide) rfl (fun ls hl => ?_)
  refine lv_aload_n hx hb dX4_badCells_2 rfl (lv_at hl 1 rfl) ?_
  obtain ⟨q1, hq1, hd⟩ := bnd_some hd
  have hPc : va_P (dC, dI) vwCl [(h0, .inr (4, [.ref h1, .int v_blocks, .ref h2, .ref h3, .ref h4, .ref h5, .ref h6, .ref h7, .ref h8])), (h5, .inl (cI, 17, .inl v_firsts))] _ := hP.sub [0, 1] rfl
  have hDc := hD.sub (ws' := [(h0, .inr (4, [.ref h1, .int v_blocks, .ref h2, .ref h3, .ref h4, .ref h5, .ref h6, .ref h7, .ref h8])), (h5, .inl (cI, 17, .inl v_firsts))]) [0, 1] (by decide) rfl
  have hFc := va_free (wc := [(h0, .inr (4, [.ref h1, .int v_blocks, .ref h2, .ref h3, .ref h4, .ref h5, .ref h6, .ref h7, .ref h8])), (h5, .inl (cI, 17, .inl v_firsts))]) hD hS hA [0, 1] rfl
  refine va_calli (va_runV (As := []) (rest := []) ⟨hx, hb, hml, hown, hts⟩ (c_X4_cells l dC dI cI cC cT cL h0 h1 h2 h3 h4 h5 h6 h7 h8 H.size v_blocks v_firsts q1 hq1) (cwV 0 hts gX4_badCells_X4_cells rfl rfl rfl hv_X4_cells ⟨Nat.le_of_ble_eq_true rfl, Nat.le_of_ble_eq_true rfl⟩) ⟨preB_fb, va_recv hK hPc (ci := 4) (q0 := 0) rfl rfl, fun U hU hW => preB_mk hU hW hPc hK hDc hN⟩ rfl rfl hl.1 rfl (lv_room (Nat.le_of_ble_eq_true rfl)) dX4_badCells_3 ⟨Nat.zero_le _, Nat.zero_le _⟩) hS (fun q _ h => hFc q h) hFc (fun r_ u_ t H locs ht hvm hw hB hz1 hk1 hS => ?_)
  have hw : r_ = q1 := hw
  have hw := hw.symm
  subst hw
  obtain ⟨hP, hD⟩ := x_join (ws' := [(h0, .inr (4, [.ref h1, .int v_blocks, .ref h2, .ref h3, .ref h4, .ref h5, .ref h6, .ref h7, .ref h8])), (h5, .inl (cI, 17, .inl v_firsts)), (h7, .inl (cI, 2464, .inl v_bad))]) hP hD [0, 1] [2] rfl rfl (by decide) (by decide) hk1 hFc ht hB [1, 2, 0] (by decide) rfl
  clear hPc hDc hFc hk1 hB ht hz1 hvm
  refine lv_istore_n (lv' := [(2, .int q1), (1, .int (0 : Int32)), (0, .ref h0)]) hx hb dX4_badCells_6 rfl hl (by decide) rfl (fun ls hl => ?_)
  refine lv_iconst (v := 0) hx hb dX4_badCells_7 (by decide) ?_
  refine lv_istore_n (lv' := [(3, .int (0 : Int32)), (2, .int q1), (1, .int (0 : Int32)), (0, .ref h0)]) hx hb dX4_badCells_8 rfl hl (by decide) rfl (fun ls hl => ?_)
  obtain ⟨q2, hq2, hd⟩ := bnd_some hd
  have Kq2 : ∀ (H : Heap) (locs : List Loc) (ls : Array Slot), va_P (dC, dI) vwCl [(h0, .inr (4, [.ref h1, .int v_blocks, .ref h2, .ref h3, .ref h4, .ref h5, .ref h6, .ref h7, .ref h8])), (h5, .inl (cI, 17, .inl v_firsts)), (h7, .inl (cI, 2464, .inl v_bad))] H → va_D A [(h0, .inr (4, [.ref h1, .int v_blocks, .ref h2, .ref h3, .ref h4, .ref h5, .ref h6, .ref h7, .ref h8])), (h5, .inl (cI, 17, .inl v_firsts)), (h7, .inl (cI, 2464, .inl v_bad))] → va_S A s.heap H locs → lv_has ls 4 [(1, .int q2)] → W p l e rmX4_badCells s m args below meth c H locs 0 0 Q (F0 m 31 ls []) := by
    intro H locs ls hP hD hS hl
    refine lv_iload_n hx hb dX4_badCells_31 rfl (lv_at hl 0 rfl) ?_
    cases hd
    exact hend (by rfl) hP hD hS dX4_badCells_32
  clear hd
  have KL5 : ∀ (fu : Nat) (y1_9 : Int32) (y3_9 : Int32) (hd : den_X4_badCells_L9 v_bad q1 fu y1_9 y3_9 = some q2) (H : Heap) (locs : List Loc) (ls : Array Slot), va_P (dC, dI) vwCl [(h0, .inr (4, [.ref h1, .int v_blocks, .ref h2, .ref h3, .ref h4, .ref h5, .ref h6, .ref h7, .ref h8])), (h5, .inl (cI, 17, .inl v_firsts)), (h7, .inl (cI, 2464, .inl v_bad))] H → va_D A [(h0, .inr (4, [.ref h1, .int v_blocks, .ref h2, .ref h3, .ref h4, .ref h5, .ref h6, .ref h7, .ref h8])), (h5, .inl (cI, 17, .inl v_firsts)), (h7, .inl (cI, 2464, .inl v_bad))] → va_S A s.heap H locs → lv_has ls 4 [(0, .ref h0), (1, .int y1_9), (2, .int q1), (3, .int y3_9)] → W p l e rmX4_badCells s m args below meth c H locs 0 0 Q (F0 m 9 ls []) := by
    intro fu
    induction fu with
    | zero => intro y1_9 y3_9 hd; exact no_some hd
    | succ fu ih =>
      intro y1_9 y3_9 hd H locs ls hP hD hS hl
      rw [den_X4_badCells_L9] at hd
      refine lv_iload_n hx hb dX4_badCells_9 rfl (lv_at hl 3 rfl) ?_
      refine lv_iload_n hx hb dX4_badCells_10 rfl (lv_at hl 2 rfl) ?_
      refine lv_icmp_ge (tgt := 31) hx hb dX4_badCells_11 (by decide) (fun c3 => ?_) (fun c3 => ?_)
      · replace hd := ite_t c3 hd
        cases hd
        exact Kq2 _ _ _ hP hD hS (lv_sub hl [1] rfl)
      · replace hd := ite_f c3 hd
        refine lv_iload_n hx hb dX4_badCells_14 rfl (lv_at hl 1 rfl) ?_
        refine lv_aload_n hx hb dX4_badCells_15 rfl (lv_at hl 0 rfl) ?_
        refine va_get (D := (dC, dI)) (ci := 4) (v := .ref h7) (C := RX4) (T := TX4) (N := 9) hx hb hts inX4_badCells_X4 hown hK hP 0 rfl rfl 7 (by decide) (hts _ kX4_badCells_1) (fun _ h9 => h9) rfl dX4_badCells_16 ?_
        refine lv_iload_n hx hb dX4_badCells_19 rfl (lv_at hl 3 rfl) ?_
        obtain ⟨g4, hd⟩ := gd_some hd
        have hPc : va_P (dC, dI) vwCl [(h7, .inl (cI, 2464, .inl v_bad))] _ := hP.sub [2] rfl
        have hDc := hD.sub (ws' := [(h7, .inl (cI, 2464, .inl v_bad))]) [2] (by decide) rfl
        have hFc := va_free (wc := [(h7, .inl (cI, 2464, .inl v_bad))]) hD hS hA [2] rfl
        refine va_calli (va_runSN (As := [.ref h7, .int y3_9]) (rest := [.int y1_9]) ⟨hx, hb, hml, hown, hts⟩ (c_X6_valueAt l dC dI cI cC cT cL h7 2464 H.size v_bad y3_9 (v_bad y3_9.toNatClampNeg) (i_X6_valueAt (Nat.le_of_ble_eq_true rfl) g4 rfl)) ⟨(va_cnB 2 hts gX4_badCells_X6_valueAt_n59 rfl rfl rfl (nxw_24 hN) (hts _ kX4_badCells_10) hp_X6_valueAt ⟨Nat.le_of_ble_eq_true rfl, Nat.le_of_ble_eq_true rfl⟩), (hts _ kX4_badCells_9), trivial⟩ ⟨preB_fb, fun U hU hW => preB_mk hU hW hPc hK hDc hN⟩ rfl rfl hl.1 rfl (lv_room (Nat.le_of_ble_eq_true rfl)) dX4_badCells_20 ⟨Nat.zero_le _, Nat.zero_le _⟩) hS (fun q _ h => hFc q h) hFc (fun r_ u_ t H locs ht hvm hw hB hz1 hk1 hS => ?_)
        have hw : r_ = (v_bad y3_9.toNatClampNeg) := hw
        have hw := hw.symm
        subst hw
        obtain ⟨hP, hD⟩ := x_join (ws' := [(h0, .inr (4, [.ref h1, .int v_blocks, .ref h2, .ref h3, .ref h4, .ref h5, .ref h6, .ref h7, .ref h8])), (h5, .inl (cI, 17, .inl v_firsts)), (h7, .inl (cI, 2464, .inl v_bad))]) hP hD [2] [0, 1] rfl rfl (by decide) (by decide) hk1 hFc ht hB [0, 1, 2] (by decide) rfl
        clear hPc hDc hFc hk1 hB ht hz1 hvm
        refine lv_iadd hx hb dX4_badCells_23 ?_
        refine lv_istore_n (lv' := [(1, .int (y1_9 + (v_bad y3_9.toNatClampNeg))), (0, .ref h0), (2, .int q1), (3, .int y3_9)]) hx hb dX4_badCells_24 rfl hl (by decide) rfl (fun ls hl => ?_)
        refine lv_iinc (v := (y3_9 + (1 : Int32))) (lv' := [(3, .int (y3_9 + (1 : Int32))), (1, .int (y1_9 + (v_bad y3_9.toNatClampNeg))), (0, .ref h0), (2, .int q1)]) hx hb dX4_badCells_25 hl (k := 3) rfl (by first | rfl | decide) (by decide) rfl (fun ls hl => ?_)
        refine lv_goto (tgt := 9) hx hb dX4_badCells_28 (by decide) ?_
        exact ih (y1_9 + (v_bad y3_9.toNatClampNeg)) (y3_9 + (1 : Int32)) hd _ _ _ hP hD hS (lv_sub hl [2, 1, 3, 0] rfl)
  exact KL5 FU (0 : Int32) (0 : Int32) hq2 _ _ _ hP hD hS (lv_sub hl [3, 2, 1, 0] rfl)
def rmX4_blockAt : Room := { frames := 2, cells := 0, slots := 0, locals := 42 }
theorem kX4_blockAt_1 : (Cond.fieldLink RX4 36 "CassetteTones$Tape" "blocks" "I") ∈ wsX4_blockAt := List.mem_of_getElem? (i := 1) (by decide +kernel)
theorem inX4_blockAt_X4 : ∀ w ∈ wsX40, w ∈ wsX4_blockAt := by decide +kernel
theorem hp_X4_blockAt : yX4_blockAt.cls ≠ "java/lang/invoke/MethodHandle" ∧ yX4_blockAt.cls ≠ "java/lang/invoke/VarHandle" ∧ (parseMethodDescriptor yX4_blockAt.desc).map (fun d => d.parameters.length) = some 1 := by decide +kernel
theorem hv_X4_blockAt : yX4_blockAt.cls = RX4 ∧ yX4_blockAt.cls ≠ "java/lang/invoke/MethodHandle" ∧ yX4_blockAt.cls ≠ "java/lang/invoke/VarHandle" ∧ (parseMethodDescriptor yX4_blockAt.desc).map (fun d => d.parameters.length) = some 1 := by decide +kernel
set_option maxHeartbeats 4000000 in
set_option maxRecDepth 100000 in
theorem c_X4_blockAt (l : Launch) (dC : Nat → ClassId) (dI : Nat → Nat → Nat) (cI cC cT cL : ClassId) (h0 h1 h2 h3 h4 h5 h6 h7 h8 : Nat) (sz : Nat) (v_blocks : Int32) (v_firsts : (Nat → Int32)) (p1 : Int32) (r : Int32) (hd : den_X4_blockAt v_blocks v_firsts p1 = some r) : Met l yX4_blockAt wsX4_blockAt rmX4_blockAt (va_Pc [.ref h0, .int p1] (preB sz (dC, dI) [(h0, .inr (4, [.ref h1, .int v_blocks, .ref h2, .ref h3, .ref h4, .ref h5, .ref h6, .ref h7, .ref h8])), (h5, .inl (cI, 17, .inl v_firsts))] [(cI, .int), (cC, .char), (cT, .object "CassetteTones$Tape"), (cL, .long)])) (va_Qi (S := Unit) (fun v _ => v = r) (fun _ t => posB (dC, dI) [(h0, .inr (4, [.ref h1, .int v_blocks, .ref h2, .ref h3, .ref h4, .ref h5, .ref h6, .ref h7, .ref h8])), (h5, .inl (cI, 17, .inl v_firsts))] [(cI, .int), (cC, .char), (cT, .object "CassetteTones$Tape"), (cL, .long)] (va_A [(h0, .inr (4, [.ref h1, .int v_blocks, .ref h2, .ref h3, .ref h4, .ref h5, .ref h6, .ref h7, .ref h8])), (h5, .inl (cI, 17, .inl v_firsts))] sz) t) (va_A [(h0, .inr (4, [.ref h1, .int v_blocks, .ref h2, .ref h3, .ref h4, .ref h5, .ref h6, .ref h7, .ref h8])), (h5, .inl (cI, 17, .inl v_firsts))] sz)) 0 0 (va_A [(h0, .inr (4, [.ref h1, .int v_blocks, .ref h2, .ref h3, .ref h4, .ref h5, .ref h6, .ref h7, .ref h8])), (h5, .inl (cI, 17, .inl v_firsts))] sz) := by
  refine x_met_i (by decide) rfl (Nat.le_of_ble_eq_true rfl) ?_
  intro p e s m args below meth c A Q H locs ls hx hb hml hown hts hK hN hA hP hD hS hl hend
  have hown : s.vm.findClass RX4 = some m.cls := hown
  have hl : lv_has ls 3 [(0, .ref h0), (1, .int p1)] := hl
  unfold den_X4_blockAt at hd
  refine lv_iconst (v := 0) hx hb dX4_blockAt_0 (by decide) ?_
  refine lv_istore_n (lv' := [(2, .int (0 : Int32)), (0, .ref h0), (1, .int p1)]) hx hb dX4_blockAt_1 rfl hl (by decide) rfl (fun ls hl => ?_)
  obtain ⟨q1, hq1, hd⟩ := bnd_some hd
  have Kq1 : ∀ (H : Heap) (locs : List Loc) (ls : Array Slot), va_P (dC, dI) vwCl [(h0, .inr (4, [.ref h1, .int v_blocks, .ref h2, .ref h3, .ref h4, .ref h5, .ref h6, .ref h7, .ref h8])), (h5, .inl (cI, 17, .inl v_firsts))] H → va_D A [(h0, .inr (4, [.ref h1, .int v_blocks, .ref h2, .ref h3, .ref h4, .ref h5, .ref h6, .ref h7, .ref h8])), (h5, .inl (cI, 17, .inl v_firsts))] → va_S A s.heap H locs → lv_has ls 3 [(2, .int q1)] → W p l e rmX4_blockAt s m args below meth c H locs 0 0 Q (F0 m 29 ls []) := by
    intro H locs ls hP hD hS hl
    refine lv_iload_n hx hb dX4_blockAt_29 rfl (lv_at hl 0 rfl) ?_
    cases hd
    exact hend (by rfl) hP hD hS dX4_blockAt_30
  clear hd
  have KL5 : ∀ (fu : Nat) (y2_2 : Int32) (hd : den_X4_blockAt_L2 p1 v_blocks v_firsts fu y2_2 = some q1) (H : Heap) (locs : List Loc) (ls : Array Slot), va_P (dC, dI) vwCl [(h0, .inr (4, [.ref h1, .int v_blocks, .ref h2, .ref h3, .ref h4, .ref h5, .ref h6, .ref h7, .ref h8])), (h5, .inl (cI, 17, .inl v_firsts))] H → va_D A [(h0, .inr (4, [.ref h1, .int v_blocks, .ref h2, .ref h3, .ref h4, .ref h5, .ref h6, .ref h7, .ref h8])), (h5, .inl (cI, 17, .inl v_firsts))] → va_S A s.heap H locs → lv_has ls 3 [(0, .ref h0), (1, .int p1), (2, .int y2_2)] → W p l e rmX4_blockAt s m args below meth c H locs 0 0 Q (F0 m 2 ls []) := by
    intro fu
    induction fu with
    | zero => intro y2_2 hd; exact no_some hd
    | succ fu ih =>
      intro y2_2 hd H locs ls hP hD hS hl
      rw [den_X4_blockAt_L2] at hd
      refine lv_iload_n hx hb dX4_blockAt_2 rfl (lv_at hl 2 rfl) ?_
      refine lv_aload_n hx hb dX4_blockAt_3 rfl (lv_at hl 0 rfl) ?_
      refine va_get (D := (dC, dI)) (ci := 4) (v := .int v_blocks) (C := RX4) (T := TX4) (N := 9) hx hb hts inX4_blockAt_X4 hown hK hP 0 rfl rfl 1 (by decide) (hts _ kX4_blockAt_1) (fun _ h9 => h9) rfl dX4_blockAt_4 ?_
      refine lv_iconst (v := 1) hx hb dX4_blockAt_7 (by decide) ?_
      refine lv_isub hx hb dX4_blockAt_8 ?_
      refine lv_icmp_ge (tgt := 29) hx hb dX4_blockAt_9 (by decide) (fun c2 => ?_) (fun c2 => ?_)
      · replace hd := ite_t c2 hd
        cases hd
        exact Kq1 _ _ _ hP hD hS (lv_sub hl [2] rfl)
      · replace hd := ite_f c2 hd
        refine lv_iload_n hx hb dX4_blockAt_12 rfl (lv_at hl 1 rfl) ?_
        refine lv_aload_n hx hb dX4_blockAt_13 rfl (lv_at hl 0 rfl) ?_
        refine lv_iload_n hx hb dX4_blockAt_14 rfl (lv_at hl 2 rfl) ?_
        refine lv_iconst (v := 1) hx hb dX4_blockAt_15 (by decide) ?_
        refine lv_iadd hx hb dX4_blockAt_16 ?_
        obtain ⟨g3, hd⟩ := gd_some hd
        have hPc : va_P (dC, dI) vwCl [(h0, .inr (4, [.ref h1, .int v_blocks, .ref h2, .ref h3, .ref h4, .ref h5, .ref h6, .ref h7, .ref h8])), (h5, .inl (cI, 17, .inl v_firsts))] _ := hP.sub [0, 1] rfl
        have hDc := hD.sub (ws' := [(h0, .inr (4, [.ref h1, .int v_blocks, .ref h2, .ref h3, .ref h4, .ref h5, .ref h6, .ref h7, .ref h8])), (h5, .inl (cI, 17, .inl v_firsts))]) [0, 1] (by decide) rfl
        have hFc := va_free (wc := [(h0, .inr (4, [.ref h1, .int v_blocks, .ref h2, .ref h3, .ref h4, .ref h5, .ref h6, .ref h7, .ref h8])), (h5, .inl (cI, 17, .inl v_firsts))]) hD hS hA [0, 1] rfl
        refine va_calli (va_runV (As := [.int (y2_2 + (1 : Int32))]) (rest := [.int p1]) ⟨hx, hb, hml, hown, hts⟩ (c_X4_firstOf l dC dI cI cC cT cL h0 h1 h2 h3 h4 h5 h6 h7 h8 H.size v_blocks v_firsts (y2_2 + (1 : Int32)) (v_firsts (y2_2 + (1 : Int32)).toNatClampNeg) (i_X4_firstOf g3 rfl)) (cwV 1 hts gX4_blockAt_X4_firstOf rfl rfl rfl hv_X4_firstOf ⟨Nat.le_of_ble_eq_true rfl, Nat.le_of_ble_eq_true rfl⟩) ⟨preB_fb, va_recv hK hPc (ci := 4) (q0 := 0) rfl rfl, fun U hU hW => preB_mk hU hW hPc hK hDc hN⟩ rfl rfl hl.1 rfl (lv_room (Nat.le_of_ble_eq_true rfl)) dX4_blockAt_17 ⟨Nat.zero_le _, Nat.zero_le _⟩) hS (fun q _ h => hFc q h) hFc (fun r_ u_ t H locs ht hvm hw hB hz1 hk1 hS => ?_)
        have hw : r_ = (v_firsts (y2_2 + (1 : Int32)).toNatClampNeg) := hw
        have hw := hw.symm
        subst hw
        obtain ⟨hP, hD⟩ := x_join (ws' := [(h0, .inr (4, [.ref h1, .int v_blocks, .ref h2, .ref h3, .ref h4, .ref h5, .ref h6, .ref h7, .ref h8])), (h5, .inl (cI, 17, .inl v_firsts))]) hP hD [0, 1] [] rfl rfl (by decide) (by decide) hk1 hFc ht hB [0, 1] (by decide) rfl
        clear hPc hDc hFc hk1 hB ht hz1 hvm
        refine lv_icmp_lt (tgt := 29) hx hb dX4_blockAt_20 (by decide) (fun c4 => ?_) (fun c4 => ?_)
        · replace hd := ite_t c4 hd
          cases hd
          exact Kq1 _ _ _ hP hD hS (lv_sub hl [2] rfl)
        · replace hd := ite_f c4 hd
          refine lv_iinc (v := (y2_2 + (1 : Int32))) (lv' := [(2, .int (y2_2 + (1 : Int32))), (0, .ref h0), (1, .int p1)]) hx hb dX4_blockAt_23 hl (k := 2) rfl (by first | rfl | decide) (by decide) rfl (fun ls hl => ?_)
          refine lv_goto (tgt := 2) hx hb dX4_blockAt_26 (by decide) ?_
          exact ih (y2_2 + (1 : Int32)) hd _ _ _ hP hD hS (lv_sub hl [1, 2, 0] rfl)
  exact KL5 FU (0 : Int32) hq1 _ _ _ hP hD hS (lv_sub hl [1, 2, 0] rfl)
def rmX4_partAt : Room := { frames := 3, cells := 0, slots := 0, locals := 64 }
theorem hp_X4_partAt : yX4_partAt.cls ≠ "java/lang/invoke/MethodHandle" ∧ yX4_partAt.cls ≠ "java/lang/invoke/VarHandle" ∧ (parseMethodDescriptor yX4_partAt.desc).map (fun d => d.parameters.length) = some 1 := by decide +kernel
theorem hv_X4_partAt : yX4_partAt.cls = RX4 ∧ yX4_partAt.cls ≠ "java/lang/invoke/MethodHandle" ∧ yX4_partAt.cls ≠ "java/lang/invoke/VarHandle" ∧ (parseMethodDescriptor yX4_partAt.desc).map (fun d => d.parameters.length) = some 1 := by decide +kernel
set_option maxHeartbeats 4000000 in
set_option maxRecDepth 100000 in
theorem c_X4_partAt (l : Launch) (dC : Nat → ClassId) (dI : Nat → Nat → Nat) (cI cC cT cL : ClassId) (h0 h1 h2 h3 h4 h5 h6 h7 h8 : Nat) (sz : Nat) (v_blocks : Int32) (v_manys : (Nat → Int32)) (v_firsts : (Nat → Int32)) (p1 : Int32) (r : Int32) (hd : den_X4_partAt v_blocks v_manys v_firsts p1 = some r) : Met l yX4_partAt wsX4_partAt rmX4_partAt (va_Pc [.ref h0, .int p1] (preB sz (dC, dI) [(h0, .inr (4, [.ref h1, .int v_blocks, .ref h2, .ref h3, .ref h4, .ref h5, .ref h6, .ref h7, .ref h8])), (h4, .inl (cI, 16, .inl v_manys)), (h5, .inl (cI, 17, .inl v_firsts))] [(cI, .int), (cC, .char), (cT, .object "CassetteTones$Tape"), (cL, .long)])) (va_Qi (S := Unit) (fun v _ => v = r) (fun _ t => posB (dC, dI) [(h0, .inr (4, [.ref h1, .int v_blocks, .ref h2, .ref h3, .ref h4, .ref h5, .ref h6, .ref h7, .ref h8])), (h4, .inl (cI, 16, .inl v_manys)), (h5, .inl (cI, 17, .inl v_firsts))] [(cI, .int), (cC, .char), (cT, .object "CassetteTones$Tape"), (cL, .long)] (va_A [(h0, .inr (4, [.ref h1, .int v_blocks, .ref h2, .ref h3, .ref h4, .ref h5, .ref h6, .ref h7, .ref h8])), (h4, .inl (cI, 16, .inl v_manys)), (h5, .inl (cI, 17, .inl v_firsts))] sz) t) (va_A [(h0, .inr (4, [.ref h1, .int v_blocks, .ref h2, .ref h3, .ref h4, .ref h5, .ref h6, .ref h7, .ref h8])), (h4, .inl (cI, 16, .inl v_manys)), (h5, .inl (cI, 17, .inl v_firsts))] sz)) 0 0 (va_A [(h0, .inr (4, [.ref h1, .int v_blocks, .ref h2, .ref h3, .ref h4, .ref h5, .ref h6, .ref h7, .ref h8])), (h4, .inl (cI, 16, .inl v_manys)), (h5, .inl (cI, 17, .inl v_firsts))] sz) := by
  refine x_met_i (by decide) rfl (Nat.le_of_ble_eq_true rfl) ?_
  intro p e s m args below meth c A Q H locs ls hx hb hml hown hts hK hN hA hP hD hS hl hend
  have hown : s.vm.findClass RX4 = some m.cls := hown
  have hl : lv_has ls 5 [(0, .ref h0), (1, .int p1)] := hl
  unfold den_X4_partAt at hd
  refine lv_aload_n hx hb dX4_partAt_0 rfl (lv_at hl 0 rfl) ?_
  refine lv_iload_n hx hb dX4_partAt_1 rfl (lv_at hl 1 rfl) ?_
  obtain ⟨q1, hq1, hd⟩ := bnd_some hd
  have hPc : va_P (dC, dI) vwCl [(h0, .inr (4, [.ref h1, .int v_blocks, .ref h2, .ref h3, .ref h4, .ref h5, .ref h6, .ref h7, .ref h8])), (h5, .inl (cI, 17, .inl v_firsts))] _ := hP.sub [0, 2] rfl
  have hDc := hD.sub (ws' := [(h0, .inr (4, [.ref h1, .int v_blocks, .ref h2, .ref h3, .ref h4, .ref h5, .ref h6, .ref h7, .ref h8])), (h5, .inl (cI, 17, .inl v_firsts))]) [0, 2] (by decide) rfl
  have hFc := va_free (wc := [(h0, .inr (4, [.ref h1, .int v_blocks, .ref h2, .ref h3, .ref h4, .ref h5, .ref h6, .ref h7, .ref h8])), (h5, .inl (cI, 17, .inl v_firsts))]) hD hS hA [0, 2] rfl
  refine va_calli (va_runV (As := [.int p1]) (rest := []) ⟨hx, hb, hml, hown, hts⟩ (c_X4_blockAt l dC dI cI cC cT cL h0 h1 h2 h3 h4 h5 h6 h7 h8 H.size v_blocks v_firsts p1 q1 hq1) (cwV 1 hts gX4_partAt_X4_blockAt rfl rfl rfl hv_X4_blockAt ⟨Nat.le_of_ble_eq_true rfl, Nat.le_of_ble_eq_true rfl⟩) ⟨preB_fb, va_recv hK hPc (ci := 4) (q0 := 0) rfl rfl, fun U hU hW => preB_mk hU hW hPc hK hDc hN⟩ rfl rfl hl.1 rfl (lv_room (Nat.le_of_ble_eq_true rfl)) dX4_partAt_2 ⟨Nat.zero_le _, Nat.zero_le _⟩) hS (fun q _ h => hFc q h) hFc (fun r_ u_ t H locs ht hvm hw hB hz1 hk1 hS => ?_)
  have hw : r_ = q1 := hw
  have hw := hw.symm
  subst hw
  obtain ⟨hP, hD⟩ := x_join (ws' := [(h0, .inr (4, [.ref h1, .int v_blocks, .ref h2, .ref h3, .ref h4, .ref h5, .ref h6, .ref h7, .ref h8])), (h4, .inl (cI, 16, .inl v_manys)), (h5, .inl (cI, 17, .inl v_firsts))]) hP hD [0, 2] [1] rfl rfl (by decide) (by decide) hk1 hFc ht hB [1, 0, 2] (by decide) rfl
  clear hPc hDc hFc hk1 hB ht hz1 hvm
  refine lv_istore_n (lv' := [(2, .int q1), (0, .ref h0), (1, .int p1)]) hx hb dX4_partAt_5 rfl hl (by decide) rfl (fun ls hl => ?_)
  refine lv_iload_n hx hb dX4_partAt_6 rfl (lv_at hl 2 rfl) ?_
  refine lv_aload_n hx hb dX4_partAt_7 rfl (lv_at hl 1 rfl) ?_
  refine lv_iload_n hx hb dX4_partAt_8 rfl (lv_at hl 0 rfl) ?_
  obtain ⟨g2, hd⟩ := gd_some hd
  have hPc : va_P (dC, dI) vwCl [(h0, .inr (4, [.ref h1, .int v_blocks, .ref h2, .ref h3, .ref h4, .ref h5, .ref h6, .ref h7, .ref h8])), (h5, .inl (cI, 17, .inl v_firsts))] _ := hP.sub [0, 2] rfl
  have hDc := hD.sub (ws' := [(h0, .inr (4, [.ref h1, .int v_blocks, .ref h2, .ref h3, .ref h4, .ref h5, .ref h6, .ref h7, .ref h8])), (h5, .inl (cI, 17, .inl v_firsts))]) [0, 2] (by decide) rfl
  have hFc := va_free (wc := [(h0, .inr (4, [.ref h1, .int v_blocks, .ref h2, .ref h3, .ref h4, .ref h5, .ref h6, .ref h7, .ref h8])), (h5, .inl (cI, 17, .inl v_firsts))]) hD hS hA [0, 2] rfl
  refine va_calli (va_runV (As := [.int q1]) (rest := [.int p1]) ⟨hx, hb, hml, hown, hts⟩ (c_X4_firstOf l dC dI cI cC cT cL h0 h1 h2 h3 h4 h5 h6 h7 h8 H.size v_blocks v_firsts q1 (v_firsts q1.toNatClampNeg) (i_X4_firstOf g2 rfl)) (cwV 1 hts gX4_partAt_X4_firstOf rfl rfl rfl hv_X4_firstOf ⟨Nat.le_of_ble_eq_true rfl, Nat.le_of_ble_eq_true rfl⟩) ⟨preB_fb, va_recv hK hPc (ci := 4) (q0 := 0) rfl rfl, fun U hU hW => preB_mk hU hW hPc hK hDc hN⟩ rfl rfl hl.1 rfl (lv_room (Nat.le_of_ble_eq_true rfl)) dX4_partAt_9 ⟨Nat.zero_le _, Nat.zero_le _⟩) hS (fun q _ h => hFc q h) hFc (fun r_ u_ t H locs ht hvm hw hB hz1 hk1 hS => ?_)
  have hw : r_ = (v_firsts q1.toNatClampNeg) := hw
  have hw := hw.symm
  subst hw
  obtain ⟨hP, hD⟩ := x_join (ws' := [(h0, .inr (4, [.ref h1, .int v_blocks, .ref h2, .ref h3, .ref h4, .ref h5, .ref h6, .ref h7, .ref h8])), (h4, .inl (cI, 16, .inl v_manys)), (h5, .inl (cI, 17, .inl v_firsts))]) hP hD [0, 2] [1] rfl rfl (by decide) (by decide) hk1 hFc ht hB [1, 0, 2] (by decide) rfl
  clear hPc hDc hFc hk1 hB ht hz1 hvm
  refine lv_isub hx hb dX4_partAt_12 ?_
  refine lv_istore_n (lv' := [(3, .int (p1 - (v_firsts q1.toNatClampNeg))), (2, .int q1), (0, .ref h0), (1, .int p1)]) hx hb dX4_partAt_13 rfl hl (by decide) rfl (fun ls hl => ?_)
  refine lv_aload_n hx hb dX4_partAt_14 rfl (lv_at hl 2 rfl) ?_
  refine lv_iload_n hx hb dX4_partAt_15 rfl (lv_at hl 1 rfl) ?_
  obtain ⟨q3, hq3, hd⟩ := bnd_some hd
  have hPc : va_P (dC, dI) vwCl [(h0, .inr (4, [.ref h1, .int v_blocks, .ref h2, .ref h3, .ref h4, .ref h5, .ref h6, .ref h7, .ref h8])), (h4, .inl (cI, 16, .inl v_manys))] _ := hP.sub [0, 1] rfl
  have hDc := hD.sub (ws' := [(h0, .inr (4, [.ref h1, .int v_blocks, .ref h2, .ref h3, .ref h4, .ref h5, .ref h6, .ref h7, .ref h8])), (h4, .inl (cI, 16, .inl v_manys))]) [0, 1] (by decide) rfl
  have hFc := va_free (wc := [(h0, .inr (4, [.ref h1, .int v_blocks, .ref h2, .ref h3, .ref h4, .ref h5, .ref h6, .ref h7, .ref h8])), (h4, .inl (cI, 16, .inl v_manys))]) hD hS hA [0, 1] rfl
  refine va_calli (va_runV (As := [.int q1]) (rest := []) ⟨hx, hb, hml, hown, hts⟩ (c_X4_tellingCells l dC dI cI cC cT cL h0 h1 h2 h3 h4 h5 h6 h7 h8 H.size v_blocks v_manys q1 q3 hq3) (cwV 1 hts gX4_partAt_X4_tellingCells rfl rfl rfl hv_X4_tellingCells ⟨Nat.le_of_ble_eq_true rfl, Nat.le_of_ble_eq_true rfl⟩) ⟨preB_fb, va_recv hK hPc (ci := 4) (q0 := 0) rfl rfl, fun U hU hW => preB_mk hU hW hPc hK hDc hN⟩ rfl rfl hl.1 rfl (lv_room (Nat.le_of_ble_eq_true rfl)) dX4_partAt_16 ⟨Nat.zero_le _, Nat.zero_le _⟩) hS (fun q _ h => hFc q h) hFc (fun r_ u_ t H locs ht hvm hw hB hz1 hk1 hS => ?_)
  have hw : r_ = q3 := hw
  have hw := hw.symm
  subst hw
  obtain ⟨hP, hD⟩ := x_join (ws' := [(h0, .inr (4, [.ref h1, .int v_blocks, .ref h2, .ref h3, .ref h4, .ref h5, .ref h6, .ref h7, .ref h8])), (h4, .inl (cI, 16, .inl v_manys)), (h5, .inl (cI, 17, .inl v_firsts))]) hP hD [0, 1] [2] rfl rfl (by decide) (by decide) hk1 hFc ht hB [1, 2, 0] (by decide) rfl
  clear hPc hDc hFc hk1 hB ht hz1 hvm
  refine lv_istore (lv' := [(4, .int q3), (3, .int (p1 - (v_firsts q1.toNatClampNeg))), (2, .int q1), (0, .ref h0), (1, .int p1)]) hx hb dX4_partAt_19 hl (by decide) rfl (fun ls hl => ?_)
  refine lv_iload_n hx hb dX4_partAt_21 rfl (lv_at hl 1 rfl) ?_
  refine lv_iload hx hb dX4_partAt_22 (lv_at hl 0 rfl) ?_
  refine lv_icmp_ge (tgt := 29) hx hb dX4_partAt_24 (by decide) (fun c4 => ?_) (fun c4 => ?_)
  · replace hd := ite_t c4 hd
    refine lv_iload_n hx hb dX4_partAt_29 rfl (lv_at hl 1 rfl) ?_
    refine lv_iconst (v := 2) hx hb dX4_partAt_30 (by decide) ?_
    refine lv_iload hx hb dX4_partAt_31 (lv_at hl 0 rfl) ?_
    refine lv_imul hx hb dX4_partAt_33 ?_
    refine lv_icmp_ge (tgt := 41) hx hb dX4_partAt_34 (by decide) (fun c5 => ?_) (fun c5 => ?_)
    · replace hd := ite_t c5 hd
      refine lv_iconst (v := 2) hx hb dX4_partAt_41 (by decide) ?_
      cases hd
      exact hend (by rfl) hP hD hS dX4_partAt_42
    · replace hd := ite_f c5 hd
      refine lv_iconst (v := 1) hx hb dX4_partAt_37 (by decide) ?_
      refine lv_goto (tgt := 42) hx hb dX4_partAt_38 (by decide) ?_
      cases hd
      exact hend (by rfl) hP hD hS dX4_partAt_42
  · replace hd := ite_f c4 hd
    refine lv_iconst (v := 0) hx hb dX4_partAt_27 (by decide) ?_
    cases hd
    exact hend (by rfl) hP hD hS dX4_partAt_28
def rmX4_bitAt : Room := { frames := 4, cells := 0, slots := 0, locals := 88 }
theorem hp_X4_bitAt : yX4_bitAt.cls ≠ "java/lang/invoke/MethodHandle" ∧ yX4_bitAt.cls ≠ "java/lang/invoke/VarHandle" ∧ (parseMethodDescriptor yX4_bitAt.desc).map (fun d => d.parameters.length) = some 1 := by decide +kernel
theorem hv_X4_bitAt : yX4_bitAt.cls = RX4 ∧ yX4_bitAt.cls ≠ "java/lang/invoke/MethodHandle" ∧ yX4_bitAt.cls ≠ "java/lang/invoke/VarHandle" ∧ (parseMethodDescriptor yX4_bitAt.desc).map (fun d => d.parameters.length) = some 1 := by decide +kernel
set_option maxHeartbeats 4000000 in
set_option maxRecDepth 100000 in
theorem c_X4_bitAt (l : Launch) (dC : Nat → ClassId) (dI : Nat → Nat → Nat) (cI cC cT cL : ClassId) (h0 h1 h2 h3 h4 h5 h6 h7 h8 : Nat) (sz : Nat) (v_blocks : Int32) (v_manys : (Nat → Int32)) (v_firsts : (Nat → Int32)) (v_bad : (Nat → Int32)) (v_written : (Nat → Int32)) (p1 : Int32) (r : Int32) (hd : den_X4_bitAt v_blocks v_manys v_firsts v_bad v_written p1 = some r) : Met l yX4_bitAt wsX4_bitAt rmX4_bitAt (va_Pc [.ref h0, .int p1] (preB sz (dC, dI) [(h0, .inr (4, [.ref h1, .int v_blocks, .ref h2, .ref h3, .ref h4, .ref h5, .ref h6, .ref h7, .ref h8])), (h4, .inl (cI, 16, .inl v_manys)), (h5, .inl (cI, 17, .inl v_firsts)), (h7, .inl (cI, 2464, .inl v_bad)), (h8, .inl (cI, 2464, .inl v_written))] [(cI, .int), (cC, .char), (cT, .object "CassetteTones$Tape"), (cL, .long)])) (va_Qi (S := Unit) (fun v _ => v = r) (fun _ t => posB (dC, dI) [(h0, .inr (4, [.ref h1, .int v_blocks, .ref h2, .ref h3, .ref h4, .ref h5, .ref h6, .ref h7, .ref h8])), (h4, .inl (cI, 16, .inl v_manys)), (h5, .inl (cI, 17, .inl v_firsts)), (h7, .inl (cI, 2464, .inl v_bad)), (h8, .inl (cI, 2464, .inl v_written))] [(cI, .int), (cC, .char), (cT, .object "CassetteTones$Tape"), (cL, .long)] (va_A [(h0, .inr (4, [.ref h1, .int v_blocks, .ref h2, .ref h3, .ref h4, .ref h5, .ref h6, .ref h7, .ref h8])), (h4, .inl (cI, 16, .inl v_manys)), (h5, .inl (cI, 17, .inl v_firsts)), (h7, .inl (cI, 2464, .inl v_bad)), (h8, .inl (cI, 2464, .inl v_written))] sz) t) (va_A [(h0, .inr (4, [.ref h1, .int v_blocks, .ref h2, .ref h3, .ref h4, .ref h5, .ref h6, .ref h7, .ref h8])), (h4, .inl (cI, 16, .inl v_manys)), (h5, .inl (cI, 17, .inl v_firsts)), (h7, .inl (cI, 2464, .inl v_bad)), (h8, .inl (cI, 2464, .inl v_written))] sz)) 0 0 (va_A [(h0, .inr (4, [.ref h1, .int v_blocks, .ref h2, .ref h3, .ref h4, .ref h5, .ref h6, .ref h7, .ref h8])), (h4, .inl (cI, 16, .inl v_manys)), (h5, .inl (cI, 17, .inl v_firsts)), (h7, .inl (cI, 2464, .inl v_bad)), (h8, .inl (cI, 2464, .inl v_written))] sz) := by
  refine x_met_i (by decide) rfl (Nat.le_of_ble_eq_true rfl) ?_
  intro p e s m args below meth c A Q H locs ls hx hb hml hown hts hK hN hA hP hD hS hl hend
  have hown : s.vm.findClass RX4 = some m.cls := hown
  have hl : lv_has ls 5 [(0, .ref h0), (1, .int p1)] := hl
  unfold den_X4_bitAt at hd
  refine lv_aload_n hx hb dX4_bitAt_0 rfl (lv_at hl 0 rfl) ?_
  refine lv_iload_n hx hb dX4_bitAt_1 rfl (lv_at hl 1 rfl) ?_
  obtain ⟨q1, hq1, hd⟩ := bnd_some hd
  have hPc : va_P (dC, dI) vwCl [(h0, .inr (4, [.ref h1, .int v_blocks, .ref h2, .ref h3, .ref h4, .ref h5, .ref h6, .ref h7, .ref h8])), (h5, .inl (cI, 17, .inl v_firsts))] _ := hP.sub [0, 2] rfl
  have hDc := hD.sub (ws' := [(h0, .inr (4, [.ref h1, .int v_blocks, .ref h2, .ref h3, .ref h4, .ref h5, .ref h6, .ref h7, .ref h8])), (h5, .inl (cI, 17, .inl v_firsts))]) [0, 2] (by decide) rfl
  have hFc := va_free (wc := [(h0, .inr (4, [.ref h1, .int v_blocks, .ref h2, .ref h3, .ref h4, .ref h5, .ref h6, .ref h7, .ref h8])), (h5, .inl (cI, 17, .inl v_firsts))]) hD hS hA [0, 2] rfl
  refine va_calli (va_runV (As := [.int p1]) (rest := []) ⟨hx, hb, hml, hown, hts⟩ (c_X4_blockAt l dC dI cI cC cT cL h0 h1 h2 h3 h4 h5 h6 h7 h8 H.size v_blocks v_firsts p1 q1 hq1) (cwV 1 hts gX4_bitAt_X4_blockAt rfl rfl rfl hv_X4_blockAt ⟨Nat.le_of_ble_eq_true rfl, Nat.le_of_ble_eq_true rfl⟩) ⟨preB_fb, va_recv hK hPc (ci := 4) (q0 := 0) rfl rfl, fun U hU hW => preB_mk hU hW hPc hK hDc hN⟩ rfl rfl hl.1 rfl (lv_room (Nat.le_of_ble_eq_true rfl)) dX4_bitAt_2 ⟨Nat.zero_le _, Nat.zero_le _⟩) hS (fun q _ h => hFc q h) hFc (fun r_ u_ t H locs ht hvm hw hB hz1 hk1 hS => ?_)
  have hw : r_ = q1 := hw
  have hw := hw.symm
  subst hw
  obtain ⟨hP, hD⟩ := x_join (ws' := [(h0, .inr (4, [.ref h1, .int v_blocks, .ref h2, .ref h3, .ref h4, .ref h5, .ref h6, .ref h7, .ref h8])), (h4, .inl (cI, 16, .inl v_manys)), (h5, .inl (cI, 17, .inl v_firsts)), (h7, .inl (cI, 2464, .inl v_bad)), (h8, .inl (cI, 2464, .inl v_written))]) hP hD [0, 2] [1, 3, 4] rfl rfl (by decide) (by decide) hk1 hFc ht hB [3, 0, 4, 1, 2] (by decide) rfl
  clear hPc hDc hFc hk1 hB ht hz1 hvm
  refine lv_istore_n (lv' := [(2, .int q1), (0, .ref h0), (1, .int p1)]) hx hb dX4_bitAt_5 rfl hl (by decide) rfl (fun ls hl => ?_)
  refine lv_aload_n hx hb dX4_bitAt_6 rfl (lv_at hl 1 rfl) ?_
  refine lv_iload_n hx hb dX4_bitAt_7 rfl (lv_at hl 2 rfl) ?_
  obtain ⟨q2, hq2, hd⟩ := bnd_some hd
  have hPc : va_P (dC, dI) vwCl [(h0, .inr (4, [.ref h1, .int v_blocks, .ref h2, .ref h3, .ref h4, .ref h5, .ref h6, .ref h7, .ref h8])), (h4, .inl (cI, 16, .inl v_manys)), (h5, .inl (cI, 17, .inl v_firsts))] _ := hP.sub [0, 1, 2] rfl
  have hDc := hD.sub (ws' := [(h0, .inr (4, [.ref h1, .int v_blocks, .ref h2, .ref h3, .ref h4, .ref h5, .ref h6, .ref h7, .ref h8])), (h4, .inl (cI, 16, .inl v_manys)), (h5, .inl (cI, 17, .inl v_firsts))]) [0, 1, 2] (by decide) rfl
  have hFc := va_free (wc := [(h0, .inr (4, [.ref h1, .int v_blocks, .ref h2, .ref h3, .ref h4, .ref h5, .ref h6, .ref h7, .ref h8])), (h4, .inl (cI, 16, .inl v_manys)), (h5, .inl (cI, 17, .inl v_firsts))]) hD hS hA [0, 1, 2] rfl
  refine va_calli (va_runV (As := [.int p1]) (rest := []) ⟨hx, hb, hml, hown, hts⟩ (c_X4_partAt l dC dI cI cC cT cL h0 h1 h2 h3 h4 h5 h6 h7 h8 H.size v_blocks v_manys v_firsts p1 q2 hq2) (cwV 1 hts gX4_bitAt_X4_partAt rfl rfl rfl hv_X4_partAt ⟨Nat.le_of_ble_eq_true rfl, Nat.le_of_ble_eq_true rfl⟩) ⟨preB_fb, va_recv hK hPc (ci := 4) (q0 := 0) rfl rfl, fun U hU hW => preB_mk hU hW hPc hK hDc hN⟩ rfl rfl hl.1 rfl (lv_room (Nat.le_of_ble_eq_true rfl)) dX4_bitAt_8 ⟨Nat.zero_le _, Nat.zero_le _⟩) hS (fun q _ h => hFc q h) hFc (fun r_ u_ t H locs ht hvm hw hB hz1 hk1 hS => ?_)
  have hw : r_ = q2 := hw
  have hw := hw.symm
  subst hw
  obtain ⟨hP, hD⟩ := x_join (ws' := [(h0, .inr (4, [.ref h1, .int v_blocks, .ref h2, .ref h3, .ref h4, .ref h5, .ref h6, .ref h7, .ref h8])), (h4, .inl (cI, 16, .inl v_manys)), (h5, .inl (cI, 17, .inl v_firsts)), (h7, .inl (cI, 2464, .inl v_bad)), (h8, .inl (cI, 2464, .inl v_written))]) hP hD [0, 1, 2] [3, 4] rfl rfl (by decide) (by decide) hk1 hFc ht hB [2, 3, 4, 0, 1] (by decide) rfl
  clear hPc hDc hFc hk1 hB ht hz1 hvm
  refine lv_istore_n (lv' := [(3, .int q2), (2, .int q1), (0, .ref h0), (1, .int p1)]) hx hb dX4_bitAt_11 rfl hl (by decide) rfl (fun ls hl => ?_)
  refine lv_iload_n hx hb dX4_bitAt_12 rfl (lv_at hl 3 rfl) ?_
  refine lv_aload_n hx hb dX4_bitAt_13 rfl (lv_at hl 2 rfl) ?_
  refine lv_iload_n hx hb dX4_bitAt_14 rfl (lv_at hl 1 rfl) ?_
  obtain ⟨g3, hd⟩ := gd_some hd
  have hPc : va_P (dC, dI) vwCl [(h0, .inr (4, [.ref h1, .int v_blocks, .ref h2, .ref h3, .ref h4, .ref h5, .ref h6, .ref h7, .ref h8])), (h5, .inl (cI, 17, .inl v_firsts))] _ := hP.sub [0, 2] rfl
  have hDc := hD.sub (ws' := [(h0, .inr (4, [.ref h1, .int v_blocks, .ref h2, .ref h3, .ref h4, .ref h5, .ref h6, .ref h7, .ref h8])), (h5, .inl (cI, 17, .inl v_firsts))]) [0, 2] (by decide) rfl
  have hFc := va_free (wc := [(h0, .inr (4, [.ref h1, .int v_blocks, .ref h2, .ref h3, .ref h4, .ref h5, .ref h6, .ref h7, .ref h8])), (h5, .inl (cI, 17, .inl v_firsts))]) hD hS hA [0, 2] rfl
  refine va_calli (va_runV (As := [.int q1]) (rest := [.int p1]) ⟨hx, hb, hml, hown, hts⟩ (c_X4_firstOf l dC dI cI cC cT cL h0 h1 h2 h3 h4 h5 h6 h7 h8 H.size v_blocks v_firsts q1 (v_firsts q1.toNatClampNeg) (i_X4_firstOf g3 rfl)) (cwV 1 hts gX4_bitAt_X4_firstOf rfl rfl rfl hv_X4_firstOf ⟨Nat.le_of_ble_eq_true rfl, Nat.le_of_ble_eq_true rfl⟩) ⟨preB_fb, va_recv hK hPc (ci := 4) (q0 := 0) rfl rfl, fun U hU hW => preB_mk hU hW hPc hK hDc hN⟩ rfl rfl hl.1 rfl (lv_room (Nat.le_of_ble_eq_true rfl)) dX4_bitAt_15 ⟨Nat.zero_le _, Nat.zero_le _⟩) hS (fun q _ h => hFc q h) hFc (fun r_ u_ t H locs ht hvm hw hB hz1 hk1 hS => ?_)
  have hw : r_ = (v_firsts q1.toNatClampNeg) := hw
  have hw := hw.symm
  subst hw
  obtain ⟨hP, hD⟩ := x_join (ws' := [(h0, .inr (4, [.ref h1, .int v_blocks, .ref h2, .ref h3, .ref h4, .ref h5, .ref h6, .ref h7, .ref h8])), (h4, .inl (cI, 16, .inl v_manys)), (h5, .inl (cI, 17, .inl v_firsts)), (h7, .inl (cI, 2464, .inl v_bad)), (h8, .inl (cI, 2464, .inl v_written))]) hP hD [0, 2] [1, 3, 4] rfl rfl (by decide) (by decide) hk1 hFc ht hB [3, 0, 4, 1, 2] (by decide) rfl
  clear hPc hDc hFc hk1 hB ht hz1 hvm
  refine lv_isub hx hb dX4_bitAt_18 ?_
  refine lv_iload_n hx hb dX4_bitAt_19 rfl (lv_at hl 0 rfl) ?_
  refine lv_aload_n hx hb dX4_bitAt_20 rfl (lv_at hl 2 rfl) ?_
  refine lv_iload_n hx hb dX4_bitAt_21 rfl (lv_at hl 1 rfl) ?_
  obtain ⟨q4, hq4, hd⟩ := bnd_some hd
  have hPc : va_P (dC, dI) vwCl [(h0, .inr (4, [.ref h1, .int v_blocks, .ref h2, .ref h3, .ref h4, .ref h5, .ref h6, .ref h7, .ref h8])), (h4, .inl (cI, 16, .inl v_manys))] _ := hP.sub [0, 1] rfl
  have hDc := hD.sub (ws' := [(h0, .inr (4, [.ref h1, .int v_blocks, .ref h2, .ref h3, .ref h4, .ref h5, .ref h6, .ref h7, .ref h8])), (h4, .inl (cI, 16, .inl v_manys))]) [0, 1] (by decide) rfl
  have hFc := va_free (wc := [(h0, .inr (4, [.ref h1, .int v_blocks, .ref h2, .ref h3, .ref h4, .ref h5, .ref h6, .ref h7, .ref h8])), (h4, .inl (cI, 16, .inl v_manys))]) hD hS hA [0, 1] rfl
  refine va_calli (va_runV (As := [.int q1]) (rest := [.int q2, .int (p1 - (v_firsts q1.toNatClampNeg))]) ⟨hx, hb, hml, hown, hts⟩ (c_X4_tellingCells l dC dI cI cC cT cL h0 h1 h2 h3 h4 h5 h6 h7 h8 H.size v_blocks v_manys q1 q4 hq4) (cwV 1 hts gX4_bitAt_X4_tellingCells rfl rfl rfl hv_X4_tellingCells ⟨Nat.le_of_ble_eq_true rfl, Nat.le_of_ble_eq_true rfl⟩) ⟨preB_fb, va_recv hK hPc (ci := 4) (q0 := 0) rfl rfl, fun U hU hW => preB_mk hU hW hPc hK hDc hN⟩ rfl rfl hl.1 rfl (lv_room (Nat.le_of_ble_eq_true rfl)) dX4_bitAt_22 ⟨Nat.zero_le _, Nat.zero_le _⟩) hS (fun q _ h => hFc q h) hFc (fun r_ u_ t H locs ht hvm hw hB hz1 hk1 hS => ?_)
  have hw : r_ = q4 := hw
  have hw := hw.symm
  subst hw
  obtain ⟨hP, hD⟩ := x_join (ws' := [(h0, .inr (4, [.ref h1, .int v_blocks, .ref h2, .ref h3, .ref h4, .ref h5, .ref h6, .ref h7, .ref h8])), (h4, .inl (cI, 16, .inl v_manys)), (h5, .inl (cI, 17, .inl v_firsts)), (h7, .inl (cI, 2464, .inl v_bad)), (h8, .inl (cI, 2464, .inl v_written))]) hP hD [0, 1] [2, 3, 4] rfl rfl (by decide) (by decide) hk1 hFc ht hB [3, 4, 0, 1, 2] (by decide) rfl
  clear hPc hDc hFc hk1 hB ht hz1 hvm
  refine lv_imul hx hb dX4_bitAt_25 ?_
  refine lv_isub hx hb dX4_bitAt_26 ?_
  refine lv_topi (fun x5 ex5 => ?_)
  replace hd := nm_some ex5 hd
  refine lv_istore (lv' := [(4, .int x5), (3, .int q2), (2, .int q1), (0, .ref h0), (1, .int p1)]) hx hb dX4_bitAt_27 hl (by decide) rfl (fun ls hl => ?_)
  refine lv_iload_n hx hb dX4_bitAt_29 rfl (lv_at hl 1 rfl) ?_
  refine lv_iconst (v := 2) hx hb dX4_bitAt_30 (by decide) ?_
  refine lv_icmp_eq (tgt := 40) hx hb dX4_bitAt_31 (by decide) (fun c6 => ?_) (fun c6 => ?_)
  · replace hd := ite_t c6 hd
    refine lv_iconst (v := 0) hx hb dX4_bitAt_40 (by decide) ?_
    cases hd
    exact hend (by rfl) hP hD hS dX4_bitAt_41
  · replace hd := ite_f c6 hd
    refine lv_iload hx hb dX4_bitAt_34 (lv_at hl 0 rfl) ?_
    refine lv_iconst (v := 4) hx hb dX4_bitAt_36 (by decide) ?_
    refine lv_icmp_ge (tgt := 42) hx hb dX4_bitAt_37 (by decide) (fun c7 => ?_) (fun c7 => ?_)
    · replace hd := ite_t c7 hd
      refine lv_aload_n hx hb dX4_bitAt_42 rfl (lv_at hl 3 rfl) ?_
      refine lv_iload_n hx hb dX4_bitAt_43 rfl (lv_at hl 4 rfl) ?_
      obtain ⟨g8, hd⟩ := gd_some hd
      obtain ⟨g9, hd⟩ := gd_some hd
      have hPc : va_P (dC, dI) vwCl [(h0, .inr (4, [.ref h1, .int v_blocks, .ref h2, .ref h3, .ref h4, .ref h5, .ref h6, .ref h7, .ref h8])), (h7, .inl (cI, 2464, .inl v_bad)), (h8, .inl (cI, 2464, .inl v_written))] _ := hP.sub [0, 3, 4] rfl
      have hDc := hD.sub (ws' := [(h0, .inr (4, [.ref h1, .int v_blocks, .ref h2, .ref h3, .ref h4, .ref h5, .ref h6, .ref h7, .ref h8])), (h7, .inl (cI, 2464, .inl v_bad)), (h8, .inl (cI, 2464, .inl v_written))]) [0, 3, 4] (by decide) rfl
      have hFc := va_free (wc := [(h0, .inr (4, [.ref h1, .int v_blocks, .ref h2, .ref h3, .ref h4, .ref h5, .ref h6, .ref h7, .ref h8])), (h7, .inl (cI, 2464, .inl v_bad)), (h8, .inl (cI, 2464, .inl v_written))]) hD hS hA [0, 3, 4] rfl
      refine va_calli (va_runV (As := [.int p1]) (rest := []) ⟨hx, hb, hml, hown, hts⟩ (c_X4_toldAt l dC dI cI cC cT cL h0 h1 h2 h3 h4 h5 h6 h7 h8 H.size v_blocks v_bad v_written p1 ((v_written p1.toNatClampNeg) ^^^ (v_bad p1.toNatClampNeg)) (i_X4_toldAt g8 rfl)) (cwV 1 hts gX4_bitAt_X4_toldAt rfl rfl rfl hv_X4_toldAt ⟨Nat.le_of_ble_eq_true rfl, Nat.le_of_ble_eq_true rfl⟩) ⟨preB_fb, va_recv hK hPc (ci := 4) (q0 := 0) rfl rfl, fun U hU hW => preB_mk hU hW hPc hK hDc hN⟩ rfl rfl hl.1 rfl (lv_room (Nat.le_of_ble_eq_true rfl)) dX4_bitAt_44 ⟨Nat.zero_le _, Nat.zero_le _⟩) hS (fun q _ h => hFc q h) hFc (fun r_ u_ t H locs ht hvm hw hB hz1 hk1 hS => ?_)
      have hw : r_ = ((v_written p1.toNatClampNeg) ^^^ (v_bad p1.toNatClampNeg)) := hw
      have hw := hw.symm
      subst hw
      obtain ⟨hP, hD⟩ := x_join (ws' := [(h0, .inr (4, [.ref h1, .int v_blocks, .ref h2, .ref h3, .ref h4, .ref h5, .ref h6, .ref h7, .ref h8])), (h4, .inl (cI, 16, .inl v_manys)), (h5, .inl (cI, 17, .inl v_firsts)), (h7, .inl (cI, 2464, .inl v_bad)), (h8, .inl (cI, 2464, .inl v_written))]) hP hD [0, 3, 4] [1, 2] rfl rfl (by decide) (by decide) hk1 hFc ht hB [2, 0, 1, 3, 4] (by decide) rfl
      clear hPc hDc hFc hk1 hB ht hz1 hvm
      cases hd
      exact hend (by rfl) hP hD hS dX4_bitAt_47
    · replace hd := ite_f c7 hd
      refine lv_iconst (v := 0) hx hb dX4_bitAt_40 (by decide) ?_
      cases hd
      exact hend (by rfl) hP hD hS dX4_bitAt_41
def rmX4_counterOf : Room := { frames := 2, cells := 0, slots := 0, locals := 42 }
theorem hp_X4_counterOf : yX4_counterOf.cls ≠ "java/lang/invoke/MethodHandle" ∧ yX4_counterOf.cls ≠ "java/lang/invoke/VarHandle" ∧ (parseMethodDescriptor yX4_counterOf.desc).map (fun d => d.parameters.length) = some 1 := by decide +kernel
theorem hv_X4_counterOf : yX4_counterOf.cls = RX4 ∧ yX4_counterOf.cls ≠ "java/lang/invoke/MethodHandle" ∧ yX4_counterOf.cls ≠ "java/lang/invoke/VarHandle" ∧ (parseMethodDescriptor yX4_counterOf.desc).map (fun d => d.parameters.length) = some 1 := by decide +kernel
set_option maxHeartbeats 4000000 in
set_option maxRecDepth 100000 in
theorem c_X4_counterOf (l : Launch) (dC : Nat → ClassId) (dI : Nat → Nat → Nat) (cI cC cT cL : ClassId) (h0 h1 h2 h3 h4 h5 h6 h7 h8 : Nat) (sz : Nat) (v_settings : (Nat → Int32)) (v_blocks : Int32) (p1 : Int32) (r : Int32) (hd : den_X4_counterOf v_settings p1 = some r) : Met l yX4_counterOf wsX4_counterOf rmX4_counterOf (va_Pc [.ref h0, .int p1] (preB sz (dC, dI) [(h0, .inr (4, [.ref h1, .int v_blocks, .ref h2, .ref h3, .ref h4, .ref h5, .ref h6, .ref h7, .ref h8])), (h1, .inl (cI, 3, .inl v_settings))] [(cI, .int), (cC, .char), (cT, .object "CassetteTones$Tape"), (cL, .long)])) (va_Qi (S := Unit) (fun v _ => v = r) (fun _ t => posB (dC, dI) [(h0, .inr (4, [.ref h1, .int v_blocks, .ref h2, .ref h3, .ref h4, .ref h5, .ref h6, .ref h7, .ref h8])), (h1, .inl (cI, 3, .inl v_settings))] [(cI, .int), (cC, .char), (cT, .object "CassetteTones$Tape"), (cL, .long)] (va_A [(h0, .inr (4, [.ref h1, .int v_blocks, .ref h2, .ref h3, .ref h4, .ref h5, .ref h6, .ref h7, .ref h8])), (h1, .inl (cI, 3, .inl v_settings))] sz) t) (va_A [(h0, .inr (4, [.ref h1, .int v_blocks, .ref h2, .ref h3, .ref h4, .ref h5, .ref h6, .ref h7, .ref h8])), (h1, .inl (cI, 3, .inl v_settings))] sz)) 0 0 (va_A [(h0, .inr (4, [.ref h1, .int v_blocks, .ref h2, .ref h3, .ref h4, .ref h5, .ref h6, .ref h7, .ref h8])), (h1, .inl (cI, 3, .inl v_settings))] sz) := by
  refine x_met_i (by decide) rfl (Nat.le_of_ble_eq_true rfl) ?_
  intro p e s m args below meth c A Q H locs ls hx hb hml hown hts hK hN hA hP hD hS hl hend
  have hown : s.vm.findClass RX4 = some m.cls := hown
  have hl : lv_has ls 2 [(0, .ref h0), (1, .int p1)] := hl
  unfold den_X4_counterOf at hd
  refine lv_iload_n hx hb dX4_counterOf_0 rfl (lv_at hl 1 rfl) ?_
  refine lv_iload_n hx hb dX4_counterOf_1 rfl (lv_at hl 1 rfl) ?_
  refine lv_aload_n hx hb dX4_counterOf_2 rfl (lv_at hl 0 rfl) ?_
  refine lv_iconst (v := 2) hx hb dX4_counterOf_3 (by decide) ?_
  have hPc : va_P (dC, dI) vwCl [(h0, .inr (4, [.ref h1, .int v_blocks, .ref h2, .ref h3, .ref h4, .ref h5, .ref h6, .ref h7, .ref h8])), (h1, .inl (cI, 3, .inl v_settings))] _ := hP.sub [0, 1] rfl
  have hDc := hD.sub (ws' := [(h0, .inr (4, [.ref h1, .int v_blocks, .ref h2, .ref h3, .ref h4, .ref h5, .ref h6, .ref h7, .ref h8])), (h1, .inl (cI, 3, .inl v_settings))]) [0, 1] (by decide) rfl
  have hFc := va_free (wc := [(h0, .inr (4, [.ref h1, .int v_blocks, .ref h2, .ref h3, .ref h4, .ref h5, .ref h6, .ref h7, .ref h8])), (h1, .inl (cI, 3, .inl v_settings))]) hD hS hA [0, 1] rfl
  refine va_calli (va_runV (As := [.int (2 : Int32)]) (rest := [.int p1, .int p1]) ⟨hx, hb, hml, hown, hts⟩ (c_X4_setting l dC dI cI cC cT cL h0 h1 h2 h3 h4 h5 h6 h7 h8 H.size v_settings v_blocks (2 : Int32) (v_settings 2) (i_X4_setting (by decide) rfl)) (cwV 1 hts gX4_counterOf_X4_setting rfl rfl rfl hv_X4_setting ⟨Nat.le_of_ble_eq_true rfl, Nat.le_of_ble_eq_true rfl⟩) ⟨preB_fb, va_recv hK hPc (ci := 4) (q0 := 0) rfl rfl, fun U hU hW => preB_mk hU hW hPc hK hDc hN⟩ rfl rfl hl.1 rfl (lv_room (Nat.le_of_ble_eq_true rfl)) dX4_counterOf_4 ⟨Nat.zero_le _, Nat.zero_le _⟩) hS (fun q _ h => hFc q h) hFc (fun r_ u_ t H locs ht hvm hw hB hz1 hk1 hS => ?_)
  have hw : r_ = (v_settings 2) := hw
  have hw := hw.symm
  subst hw
  obtain ⟨hP, hD⟩ := x_join (ws' := [(h0, .inr (4, [.ref h1, .int v_blocks, .ref h2, .ref h3, .ref h4, .ref h5, .ref h6, .ref h7, .ref h8])), (h1, .inl (cI, 3, .inl v_settings))]) hP hD [0, 1] [] rfl rfl (by decide) (by decide) hk1 hFc ht hB [0, 1] (by decide) rfl
  clear hPc hDc hFc hk1 hB ht hz1 hvm
  refine lv_imul hx hb dX4_counterOf_7 ?_
  refine lv_bipush (v := 100) hx hb dX4_counterOf_8 (by decide) ?_
  refine lv_idiv hx hb dX4_counterOf_10 (by decide) ?_
  refine lv_isub hx hb dX4_counterOf_11 ?_
  refine lv_sipush (v := 1000) hx hb dX4_counterOf_12 (by decide) ?_
  refine lv_irem hx hb dX4_counterOf_15 (by decide) ?_
  cases hd
  exact hend (by rfl) hP hD hS dX4_counterOf_16
def rmX4_distanceOf : Room := { frames := 3, cells := 0, slots := 0, locals := 63 }
theorem kX4_distanceOf_1 : (Cond.methodLink RX4 109 Lib.Math.abs.name) ∈ wsX4_distanceOf := List.mem_of_getElem? (i := 1) (by decide +kernel)
theorem kX4_distanceOf_2 : (Cond.static Lib.Math.abs.name) ∈ wsX4_distanceOf := List.mem_of_getElem? (i := 2) (by decide +kernel)
theorem kX4_distanceOf_3 : (Cond.initialized "java/lang/Math") ∈ wsX4_distanceOf := List.mem_of_getElem? (i := 3) (by decide +kernel)
theorem kX4_distanceOf_4 : (Cond.code Lib.Math.abs.name Lib.Math.abs.code 1 (some .int)) ∈ wsX4_distanceOf := List.mem_of_getElem? (i := 4) (by decide +kernel)
theorem kX4_distanceOf_5 : (Cond.methodLink RX4 50 Lib.Math.min.name) ∈ wsX4_distanceOf := List.mem_of_getElem? (i := 5) (by decide +kernel)
theorem kX4_distanceOf_6 : (Cond.static Lib.Math.min.name) ∈ wsX4_distanceOf := List.mem_of_getElem? (i := 6) (by decide +kernel)
theorem kX4_distanceOf_7 : (Cond.code Lib.Math.min.name Lib.Math.min.code 2 (some .int)) ∈ wsX4_distanceOf := List.mem_of_getElem? (i := 7) (by decide +kernel)
theorem hp_X4_distanceOf : yX4_distanceOf.cls ≠ "java/lang/invoke/MethodHandle" ∧ yX4_distanceOf.cls ≠ "java/lang/invoke/VarHandle" ∧ (parseMethodDescriptor yX4_distanceOf.desc).map (fun d => d.parameters.length) = some 2 := by decide +kernel
theorem hv_X4_distanceOf : yX4_distanceOf.cls = RX4 ∧ yX4_distanceOf.cls ≠ "java/lang/invoke/MethodHandle" ∧ yX4_distanceOf.cls ≠ "java/lang/invoke/VarHandle" ∧ (parseMethodDescriptor yX4_distanceOf.desc).map (fun d => d.parameters.length) = some 2 := by decide +kernel
set_option maxHeartbeats 4000000 in
set_option maxRecDepth 100000 in
theorem c_X4_distanceOf (l : Launch) (dC : Nat → ClassId) (dI : Nat → Nat → Nat) (cI cC cT cL : ClassId) (h0 h1 h2 h3 h4 h5 h6 h7 h8 : Nat) (sz : Nat) (v_settings : (Nat → Int32)) (v_blocks : Int32) (v_firsts : (Nat → Int32)) (p1 : Int32) (p2 : Int32) (r : Int32) (hd : den_X4_distanceOf v_settings v_firsts p1 p2 = some r) : Met l yX4_distanceOf wsX4_distanceOf rmX4_distanceOf (va_Pc [.ref h0, .int p1, .int p2] (preB sz (dC, dI) [(h0, .inr (4, [.ref h1, .int v_blocks, .ref h2, .ref h3, .ref h4, .ref h5, .ref h6, .ref h7, .ref h8])), (h1, .inl (cI, 3, .inl v_settings)), (h5, .inl (cI, 17, .inl v_firsts))] [(cI, .int), (cC, .char), (cT, .object "CassetteTones$Tape"), (cL, .long)])) (va_Qi (S := Unit) (fun v _ => v = r) (fun _ t => posB (dC, dI) [(h0, .inr (4, [.ref h1, .int v_blocks, .ref h2, .ref h3, .ref h4, .ref h5, .ref h6, .ref h7, .ref h8])), (h1, .inl (cI, 3, .inl v_settings)), (h5, .inl (cI, 17, .inl v_firsts))] [(cI, .int), (cC, .char), (cT, .object "CassetteTones$Tape"), (cL, .long)] (va_A [(h0, .inr (4, [.ref h1, .int v_blocks, .ref h2, .ref h3, .ref h4, .ref h5, .ref h6, .ref h7, .ref h8])), (h1, .inl (cI, 3, .inl v_settings)), (h5, .inl (cI, 17, .inl v_firsts))] sz) t) (va_A [(h0, .inr (4, [.ref h1, .int v_blocks, .ref h2, .ref h3, .ref h4, .ref h5, .ref h6, .ref h7, .ref h8])), (h1, .inl (cI, 3, .inl v_settings)), (h5, .inl (cI, 17, .inl v_firsts))] sz)) 0 0 (va_A [(h0, .inr (4, [.ref h1, .int v_blocks, .ref h2, .ref h3, .ref h4, .ref h5, .ref h6, .ref h7, .ref h8])), (h1, .inl (cI, 3, .inl v_settings)), (h5, .inl (cI, 17, .inl v_firsts))] sz) := by
  refine x_met_i (by decide) rfl (Nat.le_of_ble_eq_true rfl) ?_
  intro p e s m args below meth c A Q H locs ls hx hb hml hown hts hK hN hA hP hD hS hl hend
  have hown : s.vm.findClass RX4 = some m.cls := hown
  have hl : lv_has ls 4 [(0, .ref h0), (1, .int p1), (2, .int p2)] := hl
  unfold den_X4_distanceOf at hd
  refine lv_aload_n hx hb dX4_distanceOf_0 rfl (lv_at hl 0 rfl) ?_
  refine lv_aload_n hx hb dX4_distanceOf_1 rfl (lv_at hl 0 rfl) ?_
  refine lv_iload_n hx hb dX4_distanceOf_2 rfl (lv_at hl 1 rfl) ?_
  obtain ⟨g1, hd⟩ := gd_some hd
  have hPc : va_P (dC, dI) vwCl [(h0, .inr (4, [.ref h1, .int v_blocks, .ref h2, .ref h3, .ref h4, .ref h5, .ref h6, .ref h7, .ref h8])), (h5, .inl (cI, 17, .inl v_firsts))] _ := hP.sub [0, 2] rfl
  have hDc := hD.sub (ws' := [(h0, .inr (4, [.ref h1, .int v_blocks, .ref h2, .ref h3, .ref h4, .ref h5, .ref h6, .ref h7, .ref h8])), (h5, .inl (cI, 17, .inl v_firsts))]) [0, 2] (by decide) rfl
  have hFc := va_free (wc := [(h0, .inr (4, [.ref h1, .int v_blocks, .ref h2, .ref h3, .ref h4, .ref h5, .ref h6, .ref h7, .ref h8])), (h5, .inl (cI, 17, .inl v_firsts))]) hD hS hA [0, 2] rfl
  refine va_calli (va_runV (As := [.int p1]) (rest := [.ref h0]) ⟨hx, hb, hml, hown, hts⟩ (c_X4_firstOf l dC dI cI cC cT cL h0 h1 h2 h3 h4 h5 h6 h7 h8 H.size v_blocks v_firsts p1 (v_firsts p1.toNatClampNeg) (i_X4_firstOf g1 rfl)) (cwV 1 hts gX4_distanceOf_X4_firstOf rfl rfl rfl hv_X4_firstOf ⟨Nat.le_of_ble_eq_true rfl, Nat.le_of_ble_eq_true rfl⟩) ⟨preB_fb, va_recv hK hPc (ci := 4) (q0 := 0) rfl rfl, fun U hU hW => preB_mk hU hW hPc hK hDc hN⟩ rfl rfl hl.1 rfl (lv_room (Nat.le_of_ble_eq_true rfl)) dX4_distanceOf_3 ⟨Nat.zero_le _, Nat.zero_le _⟩) hS (fun q _ h => hFc q h) hFc (fun r_ u_ t H locs ht hvm hw hB hz1 hk1 hS => ?_)
  have hw : r_ = (v_firsts p1.toNatClampNeg) := hw
  have hw := hw.symm
  subst hw
  obtain ⟨hP, hD⟩ := x_join (ws' := [(h0, .inr (4, [.ref h1, .int v_blocks, .ref h2, .ref h3, .ref h4, .ref h5, .ref h6, .ref h7, .ref h8])), (h1, .inl (cI, 3, .inl v_settings)), (h5, .inl (cI, 17, .inl v_firsts))]) hP hD [0, 2] [1] rfl rfl (by decide) (by decide) hk1 hFc ht hB [1, 0, 2] (by decide) rfl
  clear hPc hDc hFc hk1 hB ht hz1 hvm
  obtain ⟨q2, hq2, hd⟩ := bnd_some hd
  have hPc : va_P (dC, dI) vwCl [(h0, .inr (4, [.ref h1, .int v_blocks, .ref h2, .ref h3, .ref h4, .ref h5, .ref h6, .ref h7, .ref h8])), (h1, .inl (cI, 3, .inl v_settings))] _ := hP.sub [0, 1] rfl
  have hDc := hD.sub (ws' := [(h0, .inr (4, [.ref h1, .int v_blocks, .ref h2, .ref h3, .ref h4, .ref h5, .ref h6, .ref h7, .ref h8])), (h1, .inl (cI, 3, .inl v_settings))]) [0, 1] (by decide) rfl
  have hFc := va_free (wc := [(h0, .inr (4, [.ref h1, .int v_blocks, .ref h2, .ref h3, .ref h4, .ref h5, .ref h6, .ref h7, .ref h8])), (h1, .inl (cI, 3, .inl v_settings))]) hD hS hA [0, 1] rfl
  refine va_calli (va_runV (As := [.int (v_firsts p1.toNatClampNeg)]) (rest := []) ⟨hx, hb, hml, hown, hts⟩ (c_X4_counterOf l dC dI cI cC cT cL h0 h1 h2 h3 h4 h5 h6 h7 h8 H.size v_settings v_blocks (v_firsts p1.toNatClampNeg) q2 hq2) (cwV 1 hts gX4_distanceOf_X4_counterOf rfl rfl rfl hv_X4_counterOf ⟨Nat.le_of_ble_eq_true rfl, Nat.le_of_ble_eq_true rfl⟩) ⟨preB_fb, va_recv hK hPc (ci := 4) (q0 := 0) rfl rfl, fun U hU hW => preB_mk hU hW hPc hK hDc hN⟩ rfl rfl hl.1 rfl (lv_room (Nat.le_of_ble_eq_true rfl)) dX4_distanceOf_6 ⟨Nat.zero_le _, Nat.zero_le _⟩) hS (fun q _ h => hFc q h) hFc (fun r_ u_ t H locs ht hvm hw hB hz1 hk1 hS => ?_)
  have hw : r_ = q2 := hw
  have hw := hw.symm
  subst hw
  obtain ⟨hP, hD⟩ := x_join (ws' := [(h0, .inr (4, [.ref h1, .int v_blocks, .ref h2, .ref h3, .ref h4, .ref h5, .ref h6, .ref h7, .ref h8])), (h1, .inl (cI, 3, .inl v_settings)), (h5, .inl (cI, 17, .inl v_firsts))]) hP hD [0, 1] [2] rfl rfl (by decide) (by decide) hk1 hFc ht hB [1, 2, 0] (by decide) rfl
  clear hPc hDc hFc hk1 hB ht hz1 hvm
  refine lv_iload_n hx hb dX4_distanceOf_9 rfl (lv_at hl 2 rfl) ?_
  refine lv_isub hx hb dX4_distanceOf_10 ?_
  refine va_mabs hx hb (hml.trans hl.1.symm) hown (hts _ kX4_distanceOf_1) (hts _ kX4_distanceOf_2) (hts _ kX4_distanceOf_3) (hts _ kX4_distanceOf_4) (Nat.le_of_ble_eq_true rfl) (Nat.le_of_ble_eq_true rfl) (Nat.zero_le _) (Nat.zero_le _) dX4_distanceOf_11 ?_
  refine lv_topi (fun x3 ex3 => ?_)
  replace hd := nm_some ex3 hd
  refine lv_istore_n (lv' := [(3, .int x3), (0, .ref h0), (1, .int p1), (2, .int p2)]) hx hb dX4_distanceOf_14 rfl hl (by decide) rfl (fun ls hl => ?_)
  refine lv_iload_n hx hb dX4_distanceOf_15 rfl (lv_at hl 0 rfl) ?_
  refine lv_sipush (v := 1000) hx hb dX4_distanceOf_16 (by decide) ?_
  refine lv_iload_n hx hb dX4_distanceOf_19 rfl (lv_at hl 0 rfl) ?_
  refine lv_isub hx hb dX4_distanceOf_20 ?_
  refine va_mmin hx hb (hml.trans hl.1.symm) hown (hts _ kX4_distanceOf_5) (hts _ kX4_distanceOf_6) (hts _ kX4_distanceOf_3) (hts _ kX4_distanceOf_7) (Nat.le_of_ble_eq_true rfl) (Nat.le_of_ble_eq_true rfl) (Nat.zero_le _) (Nat.zero_le _) dX4_distanceOf_21 ?_
  refine lv_topi (fun x4 ex4 => ?_)
  replace hd := nm_some ex4 hd
  cases hd
  exact hend (by rfl) hP hD hS dX4_distanceOf_24
def rmX4_nearerBlocks : Room := { frames := 4, cells := 0, slots := 0, locals := 86 }
theorem kX4_nearerBlocks_1 : (Cond.fieldLink RX4 36 "CassetteTones$Tape" "blocks" "I") ∈ wsX4_nearerBlocks := List.mem_of_getElem? (i := 1) (by decide +kernel)
theorem inX4_nearerBlocks_X4 : ∀ w ∈ wsX40, w ∈ wsX4_nearerBlocks := by decide +kernel
theorem hp_X4_nearerBlocks : yX4_nearerBlocks.cls ≠ "java/lang/invoke/MethodHandle" ∧ yX4_nearerBlocks.cls ≠ "java/lang/invoke/VarHandle" ∧ (parseMethodDescriptor yX4_nearerBlocks.desc).map (fun d => d.parameters.length) = some 2 := by decide +kernel
theorem hv_X4_nearerBlocks : yX4_nearerBlocks.cls = RX4 ∧ yX4_nearerBlocks.cls ≠ "java/lang/invoke/MethodHandle" ∧ yX4_nearerBlocks.cls ≠ "java/lang/invoke/VarHandle" ∧ (parseMethodDescriptor yX4_nearerBlocks.desc).map (fun d => d.parameters.length) = some 2 := by decide +kernel
set_option maxHeartbeats 4000000 in
set_option maxRecDepth 100000 in
theorem c_X4_nearerBlocks (l : Launch) (dC : Nat → ClassId) (dI : Nat → Nat → Nat) (cI cC cT cL : ClassId) (h0 h1 h2 h3 h4 h5 h6 h7 h8 : Nat) (sz : Nat) (v_settings : (Nat → Int32)) (v_blocks : Int32) (v_firsts : (Nat → Int32)) (p1 : Int32) (p2 : Int32) (r : Int32) (hd : den_X4_nearerBlocks v_settings v_blocks v_firsts p1 p2 = some r) : Met l yX4_nearerBlocks wsX4_nearerBlocks rmX4_nearerBlocks (va_Pc [.ref h0, .int p1, .int p2] (preB sz (dC, dI) [(h0, .inr (4, [.ref h1, .int v_blocks, .ref h2, .ref h3, .ref h4, .ref h5, .ref h6, .ref h7, .ref h8])), (h1, .inl (cI, 3, .inl v_settings)), (h5, .inl (cI, 17, .inl v_firsts))] [(cI, .int), (cC, .char), (cT, .object "CassetteTones$Tape"), (cL, .long)])) (va_Qi (S := Unit) (fun v _ => v = r) (fun _ t => posB (dC, dI) [(h0, .inr (4, [.ref h1, .int v_blocks, .ref h2, .ref h3, .ref h4, .ref h5, .ref h6, .ref h7, .ref h8])), (h1, .inl (cI, 3, .inl v_settings)), (h5, .inl (cI, 17, .inl v_firsts))] [(cI, .int), (cC, .char), (cT, .object "CassetteTones$Tape"), (cL, .long)] (va_A [(h0, .inr (4, [.ref h1, .int v_blocks, .ref h2, .ref h3, .ref h4, .ref h5, .ref h6, .ref h7, .ref h8])), (h1, .inl (cI, 3, .inl v_settings)), (h5, .inl (cI, 17, .inl v_firsts))] sz) t) (va_A [(h0, .inr (4, [.ref h1, .int v_blocks, .ref h2, .ref h3, .ref h4, .ref h5, .ref h6, .ref h7, .ref h8])), (h1, .inl (cI, 3, .inl v_settings)), (h5, .inl (cI, 17, .inl v_firsts))] sz)) 0 0 (va_A [(h0, .inr (4, [.ref h1, .int v_blocks, .ref h2, .ref h3, .ref h4, .ref h5, .ref h6, .ref h7, .ref h8])), (h1, .inl (cI, 3, .inl v_settings)), (h5, .inl (cI, 17, .inl v_firsts))] sz) := by
  refine x_met_i (by decide) rfl (Nat.le_of_ble_eq_true rfl) ?_
  intro p e s m args below meth c A Q H locs ls hx hb hml hown hts hK hN hA hP hD hS hl hend
  have hown : s.vm.findClass RX4 = some m.cls := hown
  have hl : lv_has ls 7 [(0, .ref h0), (1, .int p1), (2, .int p2)] := hl
  unfold den_X4_nearerBlocks at hd
  refine lv_aload_n hx hb dX4_nearerBlocks_0 rfl (lv_at hl 0 rfl) ?_
  refine lv_iload_n hx hb dX4_nearerBlocks_1 rfl (lv_at hl 1 rfl) ?_
  refine lv_iload_n hx hb dX4_nearerBlocks_2 rfl (lv_at hl 2 rfl) ?_
  obtain ⟨q1, hq1, hd⟩ := bnd_some hd
  have hPc : va_P (dC, dI) vwCl [(h0, .inr (4, [.ref h1, .int v_blocks, .ref h2, .ref h3, .ref h4, .ref h5, .ref h6, .ref h7, .ref h8])), (h1, .inl (cI, 3, .inl v_settings)), (h5, .inl (cI, 17, .inl v_firsts))] _ := hP.sub [0, 1, 2] rfl
  have hDc := hD.sub (ws' := [(h0, .inr (4, [.ref h1, .int v_blocks, .ref h2, .ref h3, .ref h4, .ref h5, .ref h6, .ref h7, .ref h8])), (h1, .inl (cI, 3, .inl v_settings)), (h5, .inl (cI, 17, .inl v_firsts))]) [0, 1, 2] (by decide) rfl
  have hFc := va_free (wc := [(h0, .inr (4, [.ref h1, .int v_blocks, .ref h2, .ref h3, .ref h4, .ref h5, .ref h6, .ref h7, .ref h8])), (h1, .inl (cI, 3, .inl v_settings)), (h5, .inl (cI, 17, .inl v_firsts))]) hD hS hA [0, 1, 2] rfl
  refine va_calli (va_runV (As := [.int p1, .int p2]) (rest := []) ⟨hx, hb, hml, hown, hts⟩ (c_X4_distanceOf l dC dI cI cC cT cL h0 h1 h2 h3 h4 h5 h6 h7 h8 H.size v_settings v_blocks v_firsts p1 p2 q1 hq1) (cwV 2 hts gX4_nearerBlocks_X4_distanceOf rfl rfl rfl hv_X4_distanceOf ⟨Nat.le_of_ble_eq_true rfl, Nat.le_of_ble_eq_true rfl⟩) ⟨preB_fb, va_recv hK hPc (ci := 4) (q0 := 0) rfl rfl, fun U hU hW => preB_mk hU hW hPc hK hDc hN⟩ rfl rfl hl.1 rfl (lv_room (Nat.le_of_ble_eq_true rfl)) dX4_nearerBlocks_3 ⟨Nat.zero_le _, Nat.zero_le _⟩) hS (fun q _ h => hFc q h) hFc (fun r_ u_ t H locs ht hvm hw hB hz1 hk1 hS => ?_)
  have hw : r_ = q1 := hw
  have hw := hw.symm
  subst hw
  obtain ⟨hP, hD⟩ := x_join (ws' := [(h0, .inr (4, [.ref h1, .int v_blocks, .ref h2, .ref h3, .ref h4, .ref h5, .ref h6, .ref h7, .ref h8])), (h1, .inl (cI, 3, .inl v_settings)), (h5, .inl (cI, 17, .inl v_firsts))]) hP hD [0, 1, 2] [] rfl rfl (by decide) (by decide) hk1 hFc ht hB [0, 1, 2] (by decide) rfl
  clear hPc hDc hFc hk1 hB ht hz1 hvm
  refine lv_istore_n (lv' := [(3, .int q1), (0, .ref h0), (1, .int p1), (2, .int p2)]) hx hb dX4_nearerBlocks_6 rfl hl (by decide) rfl (fun ls hl => ?_)
  refine lv_iconst (v := 0) hx hb dX4_nearerBlocks_7 (by decide) ?_
  refine lv_istore (lv' := [(4, .int (0 : Int32)), (3, .int q1), (0, .ref h0), (1, .int p1), (2, .int p2)]) hx hb dX4_nearerBlocks_8 hl (by decide) rfl (fun ls hl => ?_)
  refine lv_iconst (v := 0) hx hb dX4_nearerBlocks_10 (by decide) ?_
  refine lv_istore (lv' := [(5, .int (0 : Int32)), (4, .int (0 : Int32)), (3, .int q1), (0, .ref h0), (1, .int p1), (2, .int p2)]) hx hb dX4_nearerBlocks_11 hl (by decide) rfl (fun ls hl => ?_)
  obtain ⟨q2, hq2, hd⟩ := bnd_some hd
  have Kq2 : ∀ (H : Heap) (locs : List Loc) (ls : Array Slot), va_P (dC, dI) vwCl [(h0, .inr (4, [.ref h1, .int v_blocks, .ref h2, .ref h3, .ref h4, .ref h5, .ref h6, .ref h7, .ref h8])), (h1, .inl (cI, 3, .inl v_settings)), (h5, .inl (cI, 17, .inl v_firsts))] H → va_D A [(h0, .inr (4, [.ref h1, .int v_blocks, .ref h2, .ref h3, .ref h4, .ref h5, .ref h6, .ref h7, .ref h8])), (h1, .inl (cI, 3, .inl v_settings)), (h5, .inl (cI, 17, .inl v_firsts))] → va_S A s.heap H locs → lv_has ls 7 [(4, .int q2)] → W p l e rmX4_nearerBlocks s m args below meth c H locs 0 0 Q (F0 m 58 ls []) := by
    intro H locs ls hP hD hS hl
    refine lv_iload hx hb dX4_nearerBlocks_58 (lv_at hl 0 rfl) ?_
    cases hd
    exact hend (by rfl) hP hD hS dX4_nearerBlocks_60
  clear hd
  have KL8 : ∀ (fu : Nat) (y4_13 : Int32) (y5_13 : Int32) (hd : den_X4_nearerBlocks_L13 p1 p2 v_settings v_blocks v_firsts q1 fu y4_13 y5_13 = some q2) (H : Heap) (locs : List Loc) (ls : Array Slot), va_P (dC, dI) vwCl [(h0, .inr (4, [.ref h1, .int v_blocks, .ref h2, .ref h3, .ref h4, .ref h5, .ref h6, .ref h7, .ref h8])), (h1, .inl (cI, 3, .inl v_settings)), (h5, .inl (cI, 17, .inl v_firsts))] H → va_D A [(h0, .inr (4, [.ref h1, .int v_blocks, .ref h2, .ref h3, .ref h4, .ref h5, .ref h6, .ref h7, .ref h8])), (h1, .inl (cI, 3, .inl v_settings)), (h5, .inl (cI, 17, .inl v_firsts))] → va_S A s.heap H locs → lv_has ls 7 [(0, .ref h0), (1, .int p1), (2, .int p2), (3, .int q1), (4, .int y4_13), (5, .int y5_13)] → W p l e rmX4_nearerBlocks s m args below meth c H locs 0 0 Q (F0 m 13 ls []) := by
    intro fu
    induction fu with
    | zero => intro y4_13 y5_13 hd; exact no_some hd
    | succ fu ih =>
      intro y4_13 y5_13 hd H locs ls hP hD hS hl
      rw [den_X4_nearerBlocks_L13] at hd
      refine lv_iload hx hb dX4_nearerBlocks_13 (lv_at hl 5 rfl) ?_
      refine lv_aload_n hx hb dX4_nearerBlocks_15 rfl (lv_at hl 0 rfl) ?_
      refine va_get (D := (dC, dI)) (ci := 4) (v := .int v_blocks) (C := RX4) (T := TX4) (N := 9) hx hb hts inX4_nearerBlocks_X4 hown hK hP 0 rfl rfl 1 (by decide) (hts _ kX4_nearerBlocks_1) (fun _ h9 => h9) rfl dX4_nearerBlocks_16 ?_
      refine lv_icmp_ge (tgt := 58) hx hb dX4_nearerBlocks_19 (by decide) (fun c3 => ?_) (fun c3 => ?_)
      · replace hd := ite_t c3 hd
        cases hd
        exact Kq2 _ _ _ hP hD hS (lv_sub hl [4] rfl)
      · replace hd := ite_f c3 hd
        refine lv_aload_n hx hb dX4_nearerBlocks_22 rfl (lv_at hl 0 rfl) ?_
        refine lv_iload hx hb dX4_nearerBlocks_23 (lv_at hl 5 rfl) ?_
        refine lv_iload_n hx hb dX4_nearerBlocks_25 rfl (lv_at hl 2 rfl) ?_
        obtain ⟨q4, hq4, hd⟩ := bnd_some hd
        have hPc : va_P (dC, dI) vwCl [(h0, .inr (4, [.ref h1, .int v_blocks, .ref h2, .ref h3, .ref h4, .ref h5, .ref h6, .ref h7, .ref h8])), (h1, .inl (cI, 3, .inl v_settings)), (h5, .inl (cI, 17, .inl v_firsts))] _ := hP.sub [0, 1, 2] rfl
        have hDc := hD.sub (ws' := [(h0, .inr (4, [.ref h1, .int v_blocks, .ref h2, .ref h3, .ref h4, .ref h5, .ref h6, .ref h7, .ref h8])), (h1, .inl (cI, 3, .inl v_settings)), (h5, .inl (cI, 17, .inl v_firsts))]) [0, 1, 2] (by decide) rfl
        have hFc := va_free (wc := [(h0, .inr (4, [.ref h1, .int v_blocks, .ref h2, .ref h3, .ref h4, .ref h5, .ref h6, .ref h7, .ref h8])), (h1, .inl (cI, 3, .inl v_settings)), (h5, .inl (cI, 17, .inl v_firsts))]) hD hS hA [0, 1, 2] rfl
        refine va_calli (va_runV (As := [.int y5_13, .int p2]) (rest := []) ⟨hx, hb, hml, hown, hts⟩ (c_X4_distanceOf l dC dI cI cC cT cL h0 h1 h2 h3 h4 h5 h6 h7 h8 H.size v_settings v_blocks v_firsts y5_13 p2 q4 hq4) (cwV 2 hts gX4_nearerBlocks_X4_distanceOf rfl rfl rfl hv_X4_distanceOf ⟨Nat.le_of_ble_eq_true rfl, Nat.le_of_ble_eq_true rfl⟩) ⟨preB_fb, va_recv hK hPc (ci := 4) (q0 := 0) rfl rfl, fun U hU hW => preB_mk hU hW hPc hK hDc hN⟩ rfl rfl hl.1 rfl (lv_room (Nat.le_of_ble_eq_true rfl)) dX4_nearerBlocks_26 ⟨Nat.zero_le _, Nat.zero_le _⟩) hS (fun q _ h => hFc q h) hFc (fun r_ u_ t H locs ht hvm hw hB hz1 hk1 hS => ?_)
        have hw : r_ = q4 := hw
        have hw := hw.symm
        subst hw
        obtain ⟨hP, hD⟩ := x_join (ws' := [(h0, .inr (4, [.ref h1, .int v_blocks, .ref h2, .ref h3, .ref h4, .ref h5, .ref h6, .ref h7, .ref h8])), (h1, .inl (cI, 3, .inl v_settings)), (h5, .inl (cI, 17, .inl v_firsts))]) hP hD [0, 1, 2] [] rfl rfl (by decide) (by decide) hk1 hFc ht hB [0, 1, 2] (by decide) rfl
        clear hPc hDc hFc hk1 hB ht hz1 hvm
        refine lv_istore (lv' := [(6, .int q4), (0, .ref h0), (1, .int p1), (2, .int p2), (3, .int q1), (4, .int y4_13), (5, .int y5_13)]) hx hb dX4_nearerBlocks_29 hl (by decide) rfl (fun ls hl => ?_)
        refine lv_iload hx hb dX4_nearerBlocks_31 (lv_at hl 0 rfl) ?_
        refine lv_iload_n hx hb dX4_nearerBlocks_33 rfl (lv_at hl 4 rfl) ?_
        refine lv_icmp_lt (tgt := 49) hx hb dX4_nearerBlocks_34 (by decide) (fun c5 => ?_) (fun c5 => ?_)
        · replace hd := ite_t c5 hd
          refine lv_iinc (v := (y4_13 + (1 : Int32))) (lv' := [(4, .int (y4_13 + (1 : Int32))), (6, .int q4), (0, .ref h0), (1, .int p1), (2, .int p2), (3, .int q1), (5, .int y5_13)]) hx hb dX4_nearerBlocks_49 hl (k := 5) rfl (by first | rfl | decide) (by decide) rfl (fun ls hl => ?_)
          refine lv_iinc (v := (y5_13 + (1 : Int32))) (lv' := [(5, .int (y5_13 + (1 : Int32))), (4, .int (y4_13 + (1 : Int32))), (6, .int q4), (0, .ref h0), (1, .int p1), (2, .int p2), (3, .int q1)]) hx hb dX4_nearerBlocks_52 hl (k := 6) rfl (by first | rfl | decide) (by decide) rfl (fun ls hl => ?_)
          refine lv_goto (tgt := 13) hx hb dX4_nearerBlocks_55 (by decide) ?_
          exact ih (y4_13 + (1 : Int32)) (y5_13 + (1 : Int32)) hd _ _ _ hP hD hS (lv_sub hl [3, 4, 5, 6, 1, 0] rfl)
        · replace hd := ite_f c5 hd
          refine lv_iload hx hb dX4_nearerBlocks_37 (lv_at hl 0 rfl) ?_
          refine lv_iload_n hx hb dX4_nearerBlocks_39 rfl (lv_at hl 4 rfl) ?_
          refine lv_icmp_ne (tgt := 52) hx hb dX4_nearerBlocks_40 (by decide) (fun c6 => ?_) (fun c6 => ?_)
          · replace hd := ite_f c6 hd
            refine lv_iinc (v := (y5_13 + (1 : Int32))) (lv' := [(5, .int (y5_13 + (1 : Int32))), (6, .int q4), (0, .ref h0), (1, .int p1), (2, .int p2), (3, .int q1), (4, .int y4_13)]) hx hb dX4_nearerBlocks_52 hl (k := 6) rfl (by first | rfl | decide) (by decide) rfl (fun ls hl => ?_)
            refine lv_goto (tgt := 13) hx hb dX4_nearerBlocks_55 (by decide) ?_
            exact ih y4_13 (y5_13 + (1 : Int32)) hd _ _ _ hP hD hS (lv_sub hl [2, 3, 4, 5, 6, 0] rfl)
          · replace hd := ite_t c6 hd
            refine lv_iload hx hb dX4_nearerBlocks_43 (lv_at hl 6 rfl) ?_
            refine lv_iload_n hx hb dX4_nearerBlocks_45 rfl (lv_at hl 2 rfl) ?_
            refine lv_icmp_ge (tgt := 52) hx hb dX4_nearerBlocks_46 (by decide) (fun c7 => ?_) (fun c7 => ?_)
            · replace hd := ite_t c7 hd
              refine lv_iinc (v := (y5_13 + (1 : Int32))) (lv' := [(5, .int (y5_13 + (1 : Int32))), (6, .int q4), (0, .ref h0), (1, .int p1), (2, .int p2), (3, .int q1), (4, .int y4_13)]) hx hb dX4_nearerBlocks_52 hl (k := 6) rfl (by first | rfl | decide) (by decide) rfl (fun ls hl => ?_)
              refine lv_goto (tgt := 13) hx hb dX4_nearerBlocks_55 (by decide) ?_
              exact ih y4_13 (y5_13 + (1 : Int32)) hd _ _ _ hP hD hS (lv_sub hl [2, 3, 4, 5, 6, 0] rfl)
            · replace hd := ite_f c7 hd
              refine lv_iinc (v := (y4_13 + (1 : Int32))) (lv' := [(4, .int (y4_13 + (1 : Int32))), (6, .int q4), (0, .ref h0), (1, .int p1), (2, .int p2), (3, .int q1), (5, .int y5_13)]) hx hb dX4_nearerBlocks_49 hl (k := 5) rfl (by first | rfl | decide) (by decide) rfl (fun ls hl => ?_)
              refine lv_iinc (v := (y5_13 + (1 : Int32))) (lv' := [(5, .int (y5_13 + (1 : Int32))), (4, .int (y4_13 + (1 : Int32))), (6, .int q4), (0, .ref h0), (1, .int p1), (2, .int p2), (3, .int q1)]) hx hb dX4_nearerBlocks_52 hl (k := 6) rfl (by first | rfl | decide) (by decide) rfl (fun ls hl => ?_)
              refine lv_goto (tgt := 13) hx hb dX4_nearerBlocks_55 (by decide) ?_
              exact ih (y4_13 + (1 : Int32)) (y5_13 + (1 : Int32)) hd _ _ _ hP hD hS (lv_sub hl [3, 4, 5, 6, 1, 0] rfl)
  exact KL8 FU (0 : Int32) (0 : Int32) hq2 _ _ _ hP hD hS (lv_sub hl [3, 4, 5, 2, 1, 0] rfl)
def rmX4_depthOf : Room := { frames := 1, cells := 0, slots := 0, locals := 21 }
theorem kX4_depthOf_1 : (Cond.fieldLink RX4 18 "CassetteTones$Tape" "unders" "[I") ∈ wsX4_depthOf := List.mem_of_getElem? (i := 1) (by decide +kernel)
theorem kX4_depthOf_3 : (Cond.initialized RX6) ∈ wsX4_depthOf := List.mem_of_getElem? (i := 3) (by decide +kernel)
theorem kX4_depthOf_2 : (Cond.static yX6_valueAt) ∈ wsX4_depthOf := List.mem_of_getElem? (i := 2) (by decide +kernel)
theorem inX4_depthOf_X4 : ∀ w ∈ wsX40, w ∈ wsX4_depthOf := by decide +kernel
theorem hp_X4_depthOf : yX4_depthOf.cls ≠ "java/lang/invoke/MethodHandle" ∧ yX4_depthOf.cls ≠ "java/lang/invoke/VarHandle" ∧ (parseMethodDescriptor yX4_depthOf.desc).map (fun d => d.parameters.length) = some 1 := by decide +kernel
theorem hv_X4_depthOf : yX4_depthOf.cls = RX4 ∧ yX4_depthOf.cls ≠ "java/lang/invoke/MethodHandle" ∧ yX4_depthOf.cls ≠ "java/lang/invoke/VarHandle" ∧ (parseMethodDescriptor yX4_depthOf.desc).map (fun d => d.parameters.length) = some 1 := by decide +kernel
set_option maxHeartbeats 4000000 in
set_option maxRecDepth 100000 in
theorem c_X4_depthOf (l : Launch) (dC : Nat → ClassId) (dI : Nat → Nat → Nat) (cI cC cT cL : ClassId) (h0 h1 h2 h3 h4 h5 h6 h7 h8 : Nat) (sz : Nat) (v_blocks : Int32) (v_unders : (Nat → Int32)) (p1 : Int32) (r : Int32) (hd : den_X4_depthOf v_unders p1 = some r) : Met l yX4_depthOf wsX4_depthOf rmX4_depthOf (va_Pc [.ref h0, .int p1] (preB sz (dC, dI) [(h0, .inr (4, [.ref h1, .int v_blocks, .ref h2, .ref h3, .ref h4, .ref h5, .ref h6, .ref h7, .ref h8])), (h3, .inl (cI, 16, .inl v_unders))] [(cI, .int), (cC, .char), (cT, .object "CassetteTones$Tape"), (cL, .long)])) (va_Qi (S := Unit) (fun v _ => v = r) (fun _ t => posB (dC, dI) [(h0, .inr (4, [.ref h1, .int v_blocks, .ref h2, .ref h3, .ref h4, .ref h5, .ref h6, .ref h7, .ref h8])), (h3, .inl (cI, 16, .inl v_unders))] [(cI, .int), (cC, .char), (cT, .object "CassetteTones$Tape"), (cL, .long)] (va_A [(h0, .inr (4, [.ref h1, .int v_blocks, .ref h2, .ref h3, .ref h4, .ref h5, .ref h6, .ref h7, .ref h8])), (h3, .inl (cI, 16, .inl v_unders))] sz) t) (va_A [(h0, .inr (4, [.ref h1, .int v_blocks, .ref h2, .ref h3, .ref h4, .ref h5, .ref h6, .ref h7, .ref h8])), (h3, .inl (cI, 16, .inl v_unders))] sz)) 0 0 (va_A [(h0, .inr (4, [.ref h1, .int v_blocks, .ref h2, .ref h3, .ref h4, .ref h5, .ref h6, .ref h7, .ref h8])), (h3, .inl (cI, 16, .inl v_unders))] sz) := by
  refine x_met_i (by decide) rfl (Nat.le_of_ble_eq_true rfl) ?_
  intro p e s m args below meth c A Q H locs ls hx hb hml hown hts hK hN hA hP hD hS hl hend
  have hown : s.vm.findClass RX4 = some m.cls := hown
  have hl : lv_has ls 4 [(0, .ref h0), (1, .int p1)] := hl
  unfold den_X4_depthOf at hd
  refine lv_iconst (v := 0) hx hb dX4_depthOf_0 (by decide) ?_
  refine lv_istore_n (lv' := [(2, .int (0 : Int32)), (0, .ref h0), (1, .int p1)]) hx hb dX4_depthOf_1 rfl hl (by decide) rfl (fun ls hl => ?_)
  refine lv_aload_n hx hb dX4_depthOf_2 rfl (lv_at hl 1 rfl) ?_
  refine va_get (D := (dC, dI)) (ci := 4) (v := .ref h3) (C := RX4) (T := TX4) (N := 9) hx hb hts inX4_depthOf_X4 hown hK hP 0 rfl rfl 3 (by decide) (hts _ kX4_depthOf_1) (fun _ h9 => h9) rfl dX4_depthOf_3 ?_
  refine lv_iload_n hx hb dX4_depthOf_6 rfl (lv_at hl 2 rfl) ?_
  obtain ⟨g1, hd⟩ := gd_some hd
  have hPc : va_P (dC, dI) vwCl [(h3, .inl (cI, 16, .inl v_unders))] _ := hP.sub [1] rfl
  have hDc := hD.sub (ws' := [(h3, .inl (cI, 16, .inl v_unders))]) [1] (by decide) rfl
  have hFc := va_free (wc := [(h3, .inl (cI, 16, .inl v_unders))]) hD hS hA [1] rfl
  refine va_calli (va_runSN (As := [.ref h3, .int p1]) (rest := []) ⟨hx, hb, hml, hown, hts⟩ (c_X6_valueAt l dC dI cI cC cT cL h3 16 H.size v_unders p1 (v_unders p1.toNatClampNeg) (i_X6_valueAt (Nat.le_of_ble_eq_true rfl) g1 rfl)) ⟨(va_cnB 2 hts gX4_depthOf_X6_valueAt_n59 rfl rfl rfl (nxw_24 hN) (hts _ kX4_depthOf_3) hp_X6_valueAt ⟨Nat.le_of_ble_eq_true rfl, Nat.le_of_ble_eq_true rfl⟩), (hts _ kX4_depthOf_2), trivial⟩ ⟨preB_fb, fun U hU hW => preB_mk hU hW hPc hK hDc hN⟩ rfl rfl hl.1 rfl (lv_room (Nat.le_of_ble_eq_true rfl)) dX4_depthOf_7 ⟨Nat.zero_le _, Nat.zero_le _⟩) hS (fun q _ h => hFc q h) hFc (fun r_ u_ t H locs ht hvm hw hB hz1 hk1 hS => ?_)
  have hw : r_ = (v_unders p1.toNatClampNeg) := hw
  have hw := hw.symm
  subst hw
  obtain ⟨hP, hD⟩ := x_join (ws' := [(h0, .inr (4, [.ref h1, .int v_blocks, .ref h2, .ref h3, .ref h4, .ref h5, .ref h6, .ref h7, .ref h8])), (h3, .inl (cI, 16, .inl v_unders))]) hP hD [1] [0] rfl rfl (by decide) (by decide) hk1 hFc ht hB [0, 1] (by decide) rfl
  clear hPc hDc hFc hk1 hB ht hz1 hvm
  refine lv_istore_n (lv' := [(3, .int (v_unders p1.toNatClampNeg)), (2, .int (0 : Int32)), (0, .ref h0), (1, .int p1)]) hx hb dX4_depthOf_10 rfl hl (by decide) rfl (fun ls hl => ?_)
  obtain ⟨q2, hq2, hd⟩ := bnd_some hd
  have Kq2 : ∀ (H : Heap) (locs : List Loc) (ls : Array Slot), va_P (dC, dI) vwCl [(h0, .inr (4, [.ref h1, .int v_blocks, .ref h2, .ref h3, .ref h4, .ref h5, .ref h6, .ref h7, .ref h8])), (h3, .inl (cI, 16, .inl v_unders))] H → va_D A [(h0, .inr (4, [.ref h1, .int v_blocks, .ref h2, .ref h3, .ref h4, .ref h5, .ref h6, .ref h7, .ref h8])), (h3, .inl (cI, 16, .inl v_unders))] → va_S A s.heap H locs → lv_has ls 4 [(2, .int q2)] → W p l e rmX4_depthOf s m args below meth c H locs 0 0 Q (F0 m 38 ls []) := by
    intro H locs ls hP hD hS hl
    refine lv_iload_n hx hb dX4_depthOf_38 rfl (lv_at hl 0 rfl) ?_
    cases hd
    exact hend (by rfl) hP hD hS dX4_depthOf_39
  clear hd
  have KL6 : ∀ (fu : Nat) (y2_11 : Int32) (y3_11 : Int32) (hd : den_X4_depthOf_L11 v_unders fu y2_11 y3_11 = some q2) (H : Heap) (locs : List Loc) (ls : Array Slot), va_P (dC, dI) vwCl [(h0, .inr (4, [.ref h1, .int v_blocks, .ref h2, .ref h3, .ref h4, .ref h5, .ref h6, .ref h7, .ref h8])), (h3, .inl (cI, 16, .inl v_unders))] H → va_D A [(h0, .inr (4, [.ref h1, .int v_blocks, .ref h2, .ref h3, .ref h4, .ref h5, .ref h6, .ref h7, .ref h8])), (h3, .inl (cI, 16, .inl v_unders))] → va_S A s.heap H locs → lv_has ls 4 [(0, .ref h0), (2, .int y2_11), (3, .int y3_11)] → W p l e rmX4_depthOf s m args below meth c H locs 0 0 Q (F0 m 11 ls []) := by
    intro fu
    induction fu with
    | zero => intro y2_11 y3_11 hd; exact no_some hd
    | succ fu ih =>
      intro y2_11 y3_11 hd H locs ls hP hD hS hl
      rw [den_X4_depthOf_L11] at hd
      refine lv_iload_n hx hb dX4_depthOf_11 rfl (lv_at hl 2 rfl) ?_
      refine lv_bipush (v := -6) hx hb dX4_depthOf_12 (by decide) ?_
      refine lv_icmp_eq (tgt := 38) hx hb dX4_depthOf_14 (by decide) (fun c3 => ?_) (fun c3 => ?_)
      · replace hd := ite_t c3 hd
        cases hd
        exact Kq2 _ _ _ hP hD hS (lv_sub hl [1] rfl)
      · replace hd := ite_f c3 hd
        refine lv_iload_n hx hb dX4_depthOf_17 rfl (lv_at hl 1 rfl) ?_
        refine lv_bipush (v := 16) hx hb dX4_depthOf_18 (by decide) ?_
        refine lv_icmp_ge (tgt := 38) hx hb dX4_depthOf_20 (by decide) (fun c4 => ?_) (fun c4 => ?_)
        · replace hd := ite_t c4 hd
          cases hd
          exact Kq2 _ _ _ hP hD hS (lv_sub hl [1] rfl)
        · replace hd := ite_f c4 hd
          refine lv_iinc (v := (y2_11 + (1 : Int32))) (lv' := [(2, .int (y2_11 + (1 : Int32))), (0, .ref h0), (3, .int y3_11)]) hx hb dX4_depthOf_23 hl (k := 1) rfl (by first | rfl | decide) (by decide) rfl (fun ls hl => ?_)
          refine lv_aload_n hx hb dX4_depthOf_26 rfl (lv_at hl 1 rfl) ?_
          refine va_get (D := (dC, dI)) (ci := 4) (v := .ref h3) (C := RX4) (T := TX4) (N := 9) hx hb hts inX4_depthOf_X4 hown hK hP 0 rfl rfl 3 (by decide) (hts _ kX4_depthOf_1) (fun _ h9 => h9) rfl dX4_depthOf_27 ?_
          refine lv_iload_n hx hb dX4_depthOf_30 rfl (lv_at hl 2 rfl) ?_
          obtain ⟨g5, hd⟩ := gd_some hd
          have hPc : va_P (dC, dI) vwCl [(h3, .inl (cI, 16, .inl v_unders))] _ := hP.sub [1] rfl
          have hDc := hD.sub (ws' := [(h3, .inl (cI, 16, .inl v_unders))]) [1] (by decide) rfl
          have hFc := va_free (wc := [(h3, .inl (cI, 16, .inl v_unders))]) hD hS hA [1] rfl
          refine va_calli (va_runSN (As := [.ref h3, .int y3_11]) (rest := []) ⟨hx, hb, hml, hown, hts⟩ (c_X6_valueAt l dC dI cI cC cT cL h3 16 H.size v_unders y3_11 (v_unders y3_11.toNatClampNeg) (i_X6_valueAt (Nat.le_of_ble_eq_true rfl) g5 rfl)) ⟨(va_cnB 2 hts gX4_depthOf_X6_valueAt_n59 rfl rfl rfl (nxw_24 hN) (hts _ kX4_depthOf_3) hp_X6_valueAt ⟨Nat.le_of_ble_eq_true rfl, Nat.le_of_ble_eq_true rfl⟩), (hts _ kX4_depthOf_2), trivial⟩ ⟨preB_fb, fun U hU hW => preB_mk hU hW hPc hK hDc hN⟩ rfl rfl hl.1 rfl (lv_room (Nat.le_of_ble_eq_true rfl)) dX4_depthOf_31 ⟨Nat.zero_le _, Nat.zero_le _⟩) hS (fun q _ h => hFc q h) hFc (fun r_ u_ t H locs ht hvm hw hB hz1 hk1 hS => ?_)
          have hw : r_ = (v_unders y3_11.toNatClampNeg) := hw
          have hw := hw.symm
          subst hw
          obtain ⟨hP, hD⟩ := x_join (ws' := [(h0, .inr (4, [.ref h1, .int v_blocks, .ref h2, .ref h3, .ref h4, .ref h5, .ref h6, .ref h7, .ref h8])), (h3, .inl (cI, 16, .inl v_unders))]) hP hD [1] [0] rfl rfl (by decide) (by decide) hk1 hFc ht hB [0, 1] (by decide) rfl
          clear hPc hDc hFc hk1 hB ht hz1 hvm
          refine lv_istore_n (lv' := [(3, .int (v_unders y3_11.toNatClampNeg)), (2, .int (y2_11 + (1 : Int32))), (0, .ref h0)]) hx hb dX4_depthOf_34 rfl hl (by decide) rfl (fun ls hl => ?_)
          refine lv_goto (tgt := 11) hx hb dX4_depthOf_35 (by decide) ?_
          exact ih (y2_11 + (1 : Int32)) (v_unders y3_11.toNatClampNeg) hd _ _ _ hP hD hS (lv_sub hl [2, 1, 0] rfl)
  exact KL6 FU (0 : Int32) (v_unders p1.toNatClampNeg) hq2 _ _ _ hP hD hS (lv_sub hl [2, 1, 0] rfl)
