def rmX3_tellingCells : Room := { frames := 0, cells := 0, slots := 0, locals := 0 }
theorem kX3_tellingCells_1 : (Cond.fieldLink RX3 21 "CassetteTones$Tape" "manys" "[I") ∈ wsX3_tellingCells := List.mem_of_getElem? (i := 1) (by decide +kernel)
theorem inX3_tellingCells_X3 : ∀ w ∈ wsX30, w ∈ wsX3_tellingCells := by decide +kernel
theorem hp_X3_tellingCells : yX3_tellingCells.cls ≠ "java/lang/invoke/MethodHandle" ∧ yX3_tellingCells.cls ≠ "java/lang/invoke/VarHandle" ∧ (parseMethodDescriptor yX3_tellingCells.desc).map (fun d => d.parameters.length) = some 1 := by decide +kernel
theorem hv_X3_tellingCells : yX3_tellingCells.cls = RX3 ∧ yX3_tellingCells.cls ≠ "java/lang/invoke/MethodHandle" ∧ yX3_tellingCells.cls ≠ "java/lang/invoke/VarHandle" ∧ (parseMethodDescriptor yX3_tellingCells.desc).map (fun d => d.parameters.length) = some 1 := by decide +kernel
set_option maxHeartbeats 4000000 in
set_option maxRecDepth 100000 in
theorem c_X3_tellingCells (l : Launch) (dC : Nat → ClassId) (dI : Nat → Nat → Nat) (cI cC cZ cT cG : ClassId) (h0 h1 h2 h3 h4 h5 h6 h7 h8 : Nat) (sz : Nat) (v_blocks : Int32) (v_manys : (Nat → Int32)) (p1 : Int32) (r : Int32) (hd : den_X3_tellingCells v_manys p1 = some r) : Met l yX3_tellingCells wsX3_tellingCells rmX3_tellingCells (va_Pc [.ref h0, .int p1] (preB sz (dC, dI) [(h0, .inr (3, [.ref h1, .int v_blocks, .ref h2, .ref h3, .ref h4, .ref h5, .ref h6, .ref h7, .ref h8])), (h4, .inl (cI, 16, .inl v_manys))] [(cI, .int), (cC, .char), (cZ, .boolean), (cT, .object "CassetteTones$Tape"), (cG, .object "CassetteTones$Telling")])) (va_Qi (S := Unit) (fun v _ => v = r) (fun _ t => posB (dC, dI) [(h0, .inr (3, [.ref h1, .int v_blocks, .ref h2, .ref h3, .ref h4, .ref h5, .ref h6, .ref h7, .ref h8])), (h4, .inl (cI, 16, .inl v_manys))] [(cI, .int), (cC, .char), (cZ, .boolean), (cT, .object "CassetteTones$Tape"), (cG, .object "CassetteTones$Telling")] (va_A [(h0, .inr (3, [.ref h1, .int v_blocks, .ref h2, .ref h3, .ref h4, .ref h5, .ref h6, .ref h7, .ref h8])), (h4, .inl (cI, 16, .inl v_manys))] sz) t) (va_A [(h0, .inr (3, [.ref h1, .int v_blocks, .ref h2, .ref h3, .ref h4, .ref h5, .ref h6, .ref h7, .ref h8])), (h4, .inl (cI, 16, .inl v_manys))] sz)) 0 0 (va_A [(h0, .inr (3, [.ref h1, .int v_blocks, .ref h2, .ref h3, .ref h4, .ref h5, .ref h6, .ref h7, .ref h8])), (h4, .inl (cI, 16, .inl v_manys))] sz) := by
  refine x_met_i (by decide) rfl (Nat.le_of_ble_eq_true rfl) ?_
  intro p e s m args below meth c A Q H locs ls hx hb hml hown hts hK hN hA hP hD hS hl hend
  have hown : s.vm.findClass RX3 = some m.cls := hown
  have hl : lv_has ls 2 [(0, .ref h0), (1, .int p1)] := hl
  unfold den_X3_tellingCells at hd
  refine lv_iconst (v := 4) hx hb dX3_tellingCells_0 (by decide) ?_
  refine lv_aload_n hx hb dX3_tellingCells_1 rfl (lv_at hl 0 rfl) ?_
  refine va_get (D := (dC, dI)) (ci := 3) (v := .ref h4) (C := RX3) (T := TX3) (N := 9) hx hb hts inX3_tellingCells_X3 hown hK hP 0 rfl rfl 4 (by decide) (hts _ kX3_tellingCells_1) (fun _ h9 => h9) rfl dX3_tellingCells_2 ?_
  refine lv_iload_n hx hb dX3_tellingCells_5 rfl (lv_at hl 1 rfl) ?_
  obtain ⟨g1, hd⟩ := gd_some hd
  refine x_iald (k := p1.toNatClampNeg) hx hb hK hP 1 0 rfl rfl (inb_in g1) rfl dX3_tellingCells_6 ?_
  refine lv_iconst (v := 1) hx hb dX3_tellingCells_7 (by decide) ?_
  refine lv_iadd hx hb dX3_tellingCells_8 ?_
  refine lv_bipush (v := 9) hx hb dX3_tellingCells_9 (by decide) ?_
  refine lv_imul hx hb dX3_tellingCells_11 ?_
  refine lv_iadd hx hb dX3_tellingCells_12 ?_
  cases hd
  exact hend (by rfl) hP hD hS dX3_tellingCells_13
def rmX3_cells : Room := { frames := 0, cells := 0, slots := 0, locals := 0 }
theorem kX3_cells_1 : (Cond.fieldLink RX3 24 "CassetteTones$Tape" "firsts" "[I") ∈ wsX3_cells := List.mem_of_getElem? (i := 1) (by decide +kernel)
theorem kX3_cells_2 : (Cond.fieldLink RX3 36 "CassetteTones$Tape" "blocks" "I") ∈ wsX3_cells := List.mem_of_getElem? (i := 2) (by decide +kernel)
theorem inX3_cells_X3 : ∀ w ∈ wsX30, w ∈ wsX3_cells := by decide +kernel
theorem hp_X3_cells : yX3_cells.cls ≠ "java/lang/invoke/MethodHandle" ∧ yX3_cells.cls ≠ "java/lang/invoke/VarHandle" ∧ (parseMethodDescriptor yX3_cells.desc).map (fun d => d.parameters.length) = some 0 := by decide +kernel
theorem hv_X3_cells : yX3_cells.cls = RX3 ∧ yX3_cells.cls ≠ "java/lang/invoke/MethodHandle" ∧ yX3_cells.cls ≠ "java/lang/invoke/VarHandle" ∧ (parseMethodDescriptor yX3_cells.desc).map (fun d => d.parameters.length) = some 0 := by decide +kernel
set_option maxHeartbeats 4000000 in
set_option maxRecDepth 100000 in
theorem c_X3_cells (l : Launch) (dC : Nat → ClassId) (dI : Nat → Nat → Nat) (cI cC cZ cT cG : ClassId) (h0 h1 h2 h3 h4 h5 h6 h7 h8 : Nat) (sz : Nat) (v_blocks : Int32) (v_firsts : (Nat → Int32)) (r : Int32) (hd : den_X3_cells v_blocks v_firsts = some r) : Met l yX3_cells wsX3_cells rmX3_cells (va_Pc [.ref h0] (preB sz (dC, dI) [(h0, .inr (3, [.ref h1, .int v_blocks, .ref h2, .ref h3, .ref h4, .ref h5, .ref h6, .ref h7, .ref h8])), (h5, .inl (cI, 17, .inl v_firsts))] [(cI, .int), (cC, .char), (cZ, .boolean), (cT, .object "CassetteTones$Tape"), (cG, .object "CassetteTones$Telling")])) (va_Qi (S := Unit) (fun v _ => v = r) (fun _ t => posB (dC, dI) [(h0, .inr (3, [.ref h1, .int v_blocks, .ref h2, .ref h3, .ref h4, .ref h5, .ref h6, .ref h7, .ref h8])), (h5, .inl (cI, 17, .inl v_firsts))] [(cI, .int), (cC, .char), (cZ, .boolean), (cT, .object "CassetteTones$Tape"), (cG, .object "CassetteTones$Telling")] (va_A [(h0, .inr (3, [.ref h1, .int v_blocks, .ref h2, .ref h3, .ref h4, .ref h5, .ref h6, .ref h7, .ref h8])), (h5, .inl (cI, 17, .inl v_firsts))] sz) t) (va_A [(h0, .inr (3, [.ref h1, .int v_blocks, .ref h2, .ref h3, .ref h4, .ref h5, .ref h6, .ref h7, .ref h8])), (h5, .inl (cI, 17, .inl v_firsts))] sz)) 0 0 (va_A [(h0, .inr (3, [.ref h1, .int v_blocks, .ref h2, .ref h3, .ref h4, .ref h5, .ref h6, .ref h7, .ref h8])), (h5, .inl (cI, 17, .inl v_firsts))] sz) := by
  refine x_met_i (by decide) rfl (Nat.le_of_ble_eq_true rfl) ?_
  intro p e s m args below meth c A Q H locs ls hx hb hml hown hts hK hN hA hP hD hS hl hend
  have hown : s.vm.findClass RX3 = some m.cls := hown
  have hl : lv_has ls 1 [(0, .ref h0)] := hl
  unfold den_X3_cells at hd
  refine lv_aload_n hx hb dX3_cells_0 rfl (lv_at hl 0 rfl) ?_
  refine va_get (D := (dC, dI)) (ci := 3) (v := .ref h5) (C := RX3) (T := TX3) (N := 9) hx hb hts inX3_cells_X3 hown hK hP 0 rfl rfl 5 (by decide) (hts _ kX3_cells_1) (fun _ h9 => h9) rfl dX3_cells_1 ?_
  refine lv_aload_n hx hb dX3_cells_4 rfl (lv_at hl 0 rfl) ?_
  refine va_get (D := (dC, dI)) (ci := 3) (v := .int v_blocks) (C := RX3) (T := TX3) (N := 9) hx hb hts inX3_cells_X3 hown hK hP 0 rfl rfl 1 (by decide) (hts _ kX3_cells_2) (fun _ h9 => h9) rfl dX3_cells_5 ?_
  obtain ⟨g1, hd⟩ := gd_some hd
  refine x_iald (k := v_blocks.toNatClampNeg) hx hb hK hP 1 0 rfl rfl (inb_in g1) rfl dX3_cells_8 ?_
  cases hd
  exact hend (by rfl) hP hD hS dX3_cells_9
def rmX3_copyFrom : Room := { frames := 1, cells := 0, slots := 0, locals := 40 }
theorem kX3_copyFrom_1 : (Cond.fieldLink RX3 36 "CassetteTones$Tape" "blocks" "I") ∈ wsX3_copyFrom := List.mem_of_getElem? (i := 1) (by decide +kernel)
theorem kX3_copyFrom_2 : (Cond.fieldLink RX3 9 "CassetteTones$Tape" "settings" "[I") ∈ wsX3_copyFrom := List.mem_of_getElem? (i := 2) (by decide +kernel)
theorem kX3_copyFrom_3 : (Cond.methodLink RX3 40 arraycopyName) ∈ wsX3_copyFrom := List.mem_of_getElem? (i := 3) (by decide +kernel)
theorem kX3_copyFrom_4 : (Cond.native arraycopyName) ∈ wsX3_copyFrom := List.mem_of_getElem? (i := 4) (by decide +kernel)
theorem kX3_copyFrom_5 : (Cond.static arraycopyName) ∈ wsX3_copyFrom := List.mem_of_getElem? (i := 5) (by decide +kernel)
theorem kX3_copyFrom_6 : (Cond.initialized "java/lang/System") ∈ wsX3_copyFrom := List.mem_of_getElem? (i := 6) (by decide +kernel)
theorem kX3_copyFrom_7 : (Cond.fieldLink RX3 15 "CassetteTones$Tape" "names" "[I") ∈ wsX3_copyFrom := List.mem_of_getElem? (i := 7) (by decide +kernel)
theorem kX3_copyFrom_8 : (Cond.fieldLink RX3 18 "CassetteTones$Tape" "unders" "[I") ∈ wsX3_copyFrom := List.mem_of_getElem? (i := 8) (by decide +kernel)
theorem kX3_copyFrom_9 : (Cond.fieldLink RX3 21 "CassetteTones$Tape" "manys" "[I") ∈ wsX3_copyFrom := List.mem_of_getElem? (i := 9) (by decide +kernel)
theorem kX3_copyFrom_10 : (Cond.fieldLink RX3 24 "CassetteTones$Tape" "firsts" "[I") ∈ wsX3_copyFrom := List.mem_of_getElem? (i := 10) (by decide +kernel)
theorem kX3_copyFrom_11 : (Cond.fieldLink RX3 27 "CassetteTones$Tape" "volumes" "[I") ∈ wsX3_copyFrom := List.mem_of_getElem? (i := 11) (by decide +kernel)
theorem kX3_copyFrom_12 : (Cond.fieldLink RX3 30 "CassetteTones$Tape" "bad" "[I") ∈ wsX3_copyFrom := List.mem_of_getElem? (i := 12) (by decide +kernel)
theorem kX3_copyFrom_13 : (Cond.fieldLink RX3 33 "CassetteTones$Tape" "written" "[I") ∈ wsX3_copyFrom := List.mem_of_getElem? (i := 13) (by decide +kernel)
theorem inX3_copyFrom_X3 : ∀ w ∈ wsX30, w ∈ wsX3_copyFrom := by decide +kernel
theorem hp_X3_copyFrom : yX3_copyFrom.cls ≠ "java/lang/invoke/MethodHandle" ∧ yX3_copyFrom.cls ≠ "java/lang/invoke/VarHandle" ∧ (parseMethodDescriptor yX3_copyFrom.desc).map (fun d => d.parameters.length) = some 1 := by decide +kernel
theorem hv_X3_copyFrom : yX3_copyFrom.cls = RX3 ∧ yX3_copyFrom.cls ≠ "java/lang/invoke/MethodHandle" ∧ yX3_copyFrom.cls ≠ "java/lang/invoke/VarHandle" ∧ (parseMethodDescriptor yX3_copyFrom.desc).map (fun d => d.parameters.length) = some 1 := by decide +kernel
set_option maxHeartbeats 4000000 in
set_option maxRecDepth 100000 in
theorem c_X3_copyFrom (l : Launch) (dC : Nat → ClassId) (dI : Nat → Nat → Nat) (cI cC cZ cT cG : ClassId) (h0 h1 h2 h3 h4 h5 h6 h7 h8 h9 h10 h11 h12 h13 h14 h15 h16 h17 : Nat) (sz : Nat) (v_settings : (Nat → Int32)) (v_blocks : Int32) (v_names : (Nat → Int32)) (v_unders : (Nat → Int32)) (v_manys : (Nat → Int32)) (v_firsts : (Nat → Int32)) (v_volumes : (Nat → Int32)) (v_bad : (Nat → Int32)) (v_written : (Nat → Int32)) (p1_settings : (Nat → Int32)) (p1_blocks : Int32) (p1_names : (Nat → Int32)) (p1_unders : (Nat → Int32)) (p1_manys : (Nat → Int32)) (p1_firsts : (Nat → Int32)) (p1_volumes : (Nat → Int32)) (p1_bad : (Nat → Int32)) (p1_written : (Nat → Int32)) (r : ((Nat → Int32) × Int32 × (Nat → Int32) × (Nat → Int32) × (Nat → Int32) × (Nat → Int32) × (Nat → Int32) × (Nat → Int32) × (Nat → Int32))) (hd : den_X3_copyFrom v_settings v_blocks v_names v_unders v_manys v_firsts v_volumes v_bad v_written p1_settings p1_blocks p1_names p1_unders p1_manys p1_firsts p1_volumes p1_bad p1_written = some r) : Met l yX3_copyFrom wsX3_copyFrom rmX3_copyFrom (va_Pc [.ref h0, .ref h9] (preB sz (dC, dI) [(h0, .inr (3, [.ref h1, .int v_blocks, .ref h2, .ref h3, .ref h4, .ref h5, .ref h6, .ref h7, .ref h8])), (h1, .inl (cI, 3, .inl v_settings)), (h2, .inl (cI, 16, .inl v_names)), (h3, .inl (cI, 16, .inl v_unders)), (h4, .inl (cI, 16, .inl v_manys)), (h5, .inl (cI, 17, .inl v_firsts)), (h6, .inl (cI, 2464, .inl v_volumes)), (h7, .inl (cI, 2464, .inl v_bad)), (h8, .inl (cI, 2464, .inl v_written)), (h9, .inr (3, [.ref h10, .int p1_blocks, .ref h11, .ref h12, .ref h13, .ref h14, .ref h15, .ref h16, .ref h17])), (h10, .inl (cI, 3, .inl p1_settings)), (h11, .inl (cI, 16, .inl p1_names)), (h12, .inl (cI, 16, .inl p1_unders)), (h13, .inl (cI, 16, .inl p1_manys)), (h14, .inl (cI, 17, .inl p1_firsts)), (h15, .inl (cI, 2464, .inl p1_volumes)), (h16, .inl (cI, 2464, .inl p1_bad)), (h17, .inl (cI, 2464, .inl p1_written))] [(cI, .int), (cC, .char), (cZ, .boolean), (cT, .object "CassetteTones$Tape"), (cG, .object "CassetteTones$Telling")])) (va_Qv (S := Unit) (fun _ => True) (fun _ t => posB (dC, dI) [(h0, .inr (3, [.ref h1, .int r.2.1, .ref h2, .ref h3, .ref h4, .ref h5, .ref h6, .ref h7, .ref h8])), (h1, .inl (cI, 3, .inl r.1)), (h2, .inl (cI, 16, .inl r.2.2.1)), (h3, .inl (cI, 16, .inl r.2.2.2.1)), (h4, .inl (cI, 16, .inl r.2.2.2.2.1)), (h5, .inl (cI, 17, .inl r.2.2.2.2.2.1)), (h6, .inl (cI, 2464, .inl r.2.2.2.2.2.2.1)), (h7, .inl (cI, 2464, .inl r.2.2.2.2.2.2.2.1)), (h8, .inl (cI, 2464, .inl r.2.2.2.2.2.2.2.2)), (h9, .inr (3, [.ref h10, .int p1_blocks, .ref h11, .ref h12, .ref h13, .ref h14, .ref h15, .ref h16, .ref h17])), (h10, .inl (cI, 3, .inl p1_settings)), (h11, .inl (cI, 16, .inl p1_names)), (h12, .inl (cI, 16, .inl p1_unders)), (h13, .inl (cI, 16, .inl p1_manys)), (h14, .inl (cI, 17, .inl p1_firsts)), (h15, .inl (cI, 2464, .inl p1_volumes)), (h16, .inl (cI, 2464, .inl p1_bad)), (h17, .inl (cI, 2464, .inl p1_written))] [(cI, .int), (cC, .char), (cZ, .boolean), (cT, .object "CassetteTones$Tape"), (cG, .object "CassetteTones$Telling")] (va_A [(h0, .inr (3, [.ref h1, .int v_blocks, .ref h2, .ref h3, .ref h4, .ref h5, .ref h6, .ref h7, .ref h8])), (h1, .inl (cI, 3, .inl v_settings)), (h2, .inl (cI, 16, .inl v_names)), (h3, .inl (cI, 16, .inl v_unders)), (h4, .inl (cI, 16, .inl v_manys)), (h5, .inl (cI, 17, .inl v_firsts)), (h6, .inl (cI, 2464, .inl v_volumes)), (h7, .inl (cI, 2464, .inl v_bad)), (h8, .inl (cI, 2464, .inl v_written)), (h9, .inr (3, [.ref h10, .int p1_blocks, .ref h11, .ref h12, .ref h13, .ref h14, .ref h15, .ref h16, .ref h17])), (h10, .inl (cI, 3, .inl p1_settings)), (h11, .inl (cI, 16, .inl p1_names)), (h12, .inl (cI, 16, .inl p1_unders)), (h13, .inl (cI, 16, .inl p1_manys)), (h14, .inl (cI, 17, .inl p1_firsts)), (h15, .inl (cI, 2464, .inl p1_volumes)), (h16, .inl (cI, 2464, .inl p1_bad)), (h17, .inl (cI, 2464, .inl p1_written))] sz) t) (va_A [(h0, .inr (3, [.ref h1, .int v_blocks, .ref h2, .ref h3, .ref h4, .ref h5, .ref h6, .ref h7, .ref h8])), (h1, .inl (cI, 3, .inl v_settings)), (h2, .inl (cI, 16, .inl v_names)), (h3, .inl (cI, 16, .inl v_unders)), (h4, .inl (cI, 16, .inl v_manys)), (h5, .inl (cI, 17, .inl v_firsts)), (h6, .inl (cI, 2464, .inl v_volumes)), (h7, .inl (cI, 2464, .inl v_bad)), (h8, .inl (cI, 2464, .inl v_written)), (h9, .inr (3, [.ref h10, .int p1_blocks, .ref h11, .ref h12, .ref h13, .ref h14, .ref h15, .ref h16, .ref h17])), (h10, .inl (cI, 3, .inl p1_settings)), (h11, .inl (cI, 16, .inl p1_names)), (h12, .inl (cI, 16, .inl p1_unders)), (h13, .inl (cI, 16, .inl p1_manys)), (h14, .inl (cI, 17, .inl p1_firsts)), (h15, .inl (cI, 2464, .inl p1_volumes)), (h16, .inl (cI, 2464, .inl p1_bad)), (h17, .inl (cI, 2464, .inl p1_written))] sz)) 0 0 (va_A [(h0, .inr (3, [.ref h1, .int v_blocks, .ref h2, .ref h3, .ref h4, .ref h5, .ref h6, .ref h7, .ref h8])), (h1, .inl (cI, 3, .inl v_settings)), (h2, .inl (cI, 16, .inl v_names)), (h3, .inl (cI, 16, .inl v_unders)), (h4, .inl (cI, 16, .inl v_manys)), (h5, .inl (cI, 17, .inl v_firsts)), (h6, .inl (cI, 2464, .inl v_volumes)), (h7, .inl (cI, 2464, .inl v_bad)), (h8, .inl (cI, 2464, .inl v_written)), (h9, .inr (3, [.ref h10, .int p1_blocks, .ref h11, .ref h12, .ref h13, .ref h14, .ref h15, .ref h16, .ref h17])), (h10, .inl (cI, 3, .inl p1_settings)), (h11, .inl (cI, 16, .inl p1_names)), (h12, .inl (cI, 16, .inl p1_unders)), (h13, .inl (cI, 16, .inl p1_manys)), (h14, .inl (cI, 17, .inl p1_firsts)), (h15, .inl (cI, 2464, .inl p1_volumes)), (h16, .inl (cI, 2464, .inl p1_bad)), (h17, .inl (cI, 2464, .inl p1_written))] sz) := by
  refine x_met_v (by decide) rfl (Nat.le_of_ble_eq_true rfl) ?_
  intro p e s m args below meth c A Q H locs ls hx hb hml hown hts hK hN hA hP hD hS hl hend
  have hown : s.vm.findClass RX3 = some m.cls := hown
  have hl : lv_has ls 3 [(0, .ref h0), (1, .ref h9)] := hl
  unfold den_X3_copyFrom at hd
  refine lv_aload_n hx hb dX3_copyFrom_0 rfl (lv_at hl 0 rfl) ?_
  refine lv_aload_n hx hb dX3_copyFrom_1 rfl (lv_at hl 1 rfl) ?_
  refine va_get (D := (dC, dI)) (ci := 3) (v := .int p1_blocks) (C := RX3) (T := TX3) (N := 9) hx hb hts inX3_copyFrom_X3 hown hK hP 9 rfl rfl 1 (by decide) (hts _ kX3_copyFrom_1) (fun _ h9 => h9) rfl dX3_copyFrom_2 ?_
  refine va_put (D := (dC, dI)) (ci := 3) (v := .int p1_blocks) (ty := .int) (C := RX3) (T := TX3) (N := 9) hx hb hts inX3_copyFrom_X3 tyX3 tyX3_ok nmX3 hown hK hP hD hS 0 rfl rfl 1 (by decide) (hts _ kX3_copyFrom_1) (fun _ h9 => h9) rfl (by decide +kernel) rfl rfl (Nat.le_of_ble_eq_true rfl) dX3_copyFrom_5 (fun H locs hP hD hS => ?_)
  have hP : va_P (dC, dI) vwCl [(h0, .inr (3, [.ref h1, .int p1_blocks, .ref h2, .ref h3, .ref h4, .ref h5, .ref h6, .ref h7, .ref h8])), (h1, .inl (cI, 3, .inl v_settings)), (h2, .inl (cI, 16, .inl v_names)), (h3, .inl (cI, 16, .inl v_unders)), (h4, .inl (cI, 16, .inl v_manys)), (h5, .inl (cI, 17, .inl v_firsts)), (h6, .inl (cI, 2464, .inl v_volumes)), (h7, .inl (cI, 2464, .inl v_bad)), (h8, .inl (cI, 2464, .inl v_written)), (h9, .inr (3, [.ref h10, .int p1_blocks, .ref h11, .ref h12, .ref h13, .ref h14, .ref h15, .ref h16, .ref h17])), (h10, .inl (cI, 3, .inl p1_settings)), (h11, .inl (cI, 16, .inl p1_names)), (h12, .inl (cI, 16, .inl p1_unders)), (h13, .inl (cI, 16, .inl p1_manys)), (h14, .inl (cI, 17, .inl p1_firsts)), (h15, .inl (cI, 2464, .inl p1_volumes)), (h16, .inl (cI, 2464, .inl p1_bad)), (h17, .inl (cI, 2464, .inl p1_written))] H := hP
  have hD : va_D A [(h0, .inr (3, [.ref h1, .int p1_blocks, .ref h2, .ref h3, .ref h4, .ref h5, .ref h6, .ref h7, .ref h8])), (h1, .inl (cI, 3, .inl v_settings)), (h2, .inl (cI, 16, .inl v_names)), (h3, .inl (cI, 16, .inl v_unders)), (h4, .inl (cI, 16, .inl v_manys)), (h5, .inl (cI, 17, .inl v_firsts)), (h6, .inl (cI, 2464, .inl v_volumes)), (h7, .inl (cI, 2464, .inl v_bad)), (h8, .inl (cI, 2464, .inl v_written)), (h9, .inr (3, [.ref h10, .int p1_blocks, .ref h11, .ref h12, .ref h13, .ref h14, .ref h15, .ref h16, .ref h17])), (h10, .inl (cI, 3, .inl p1_settings)), (h11, .inl (cI, 16, .inl p1_names)), (h12, .inl (cI, 16, .inl p1_unders)), (h13, .inl (cI, 16, .inl p1_manys)), (h14, .inl (cI, 17, .inl p1_firsts)), (h15, .inl (cI, 2464, .inl p1_volumes)), (h16, .inl (cI, 2464, .inl p1_bad)), (h17, .inl (cI, 2464, .inl p1_written))] := hD
  refine lv_aload_n hx hb dX3_copyFrom_8 rfl (lv_at hl 1 rfl) ?_
  refine va_get (D := (dC, dI)) (ci := 3) (v := .ref h10) (C := RX3) (T := TX3) (N := 9) hx hb hts inX3_copyFrom_X3 hown hK hP 9 rfl rfl 0 (by decide) (hts _ kX3_copyFrom_2) (fun _ h9 => h9) rfl dX3_copyFrom_9 ?_
  refine lv_iconst (v := 0) hx hb dX3_copyFrom_12 (by decide) ?_
  refine lv_aload_n hx hb dX3_copyFrom_13 rfl (lv_at hl 0 rfl) ?_
  refine va_get (D := (dC, dI)) (ci := 3) (v := .ref h1) (C := RX3) (T := TX3) (N := 9) hx hb hts inX3_copyFrom_X3 hown hK hP 0 rfl rfl 0 (by decide) (hts _ kX3_copyFrom_2) (fun _ h9 => h9) rfl dX3_copyFrom_14 ?_
  refine lv_iconst (v := 0) hx hb dX3_copyFrom_17 (by decide) ?_
  refine lv_iconst (v := 3) hx hb dX3_copyFrom_18 (by decide) ?_
  refine x_copyi (k := 3) hx hb (hml.trans hl.1.symm) hown (hts _ kX3_copyFrom_3) (hts _ kX3_copyFrom_4) (hts _ kX3_copyFrom_5) (hts _ kX3_copyFrom_6) hK hP hD hS 10 1 0 0 rfl rfl rfl rfl (by decide) (by decide) (by decide) rfl (Nat.le_of_ble_eq_true rfl) (Nat.le_of_ble_eq_true rfl) dX3_copyFrom_19 (fun H locs hP hD hS => ?_)
  have hP : va_P (dC, dI) vwCl [(h0, .inr (3, [.ref h1, .int p1_blocks, .ref h2, .ref h3, .ref h4, .ref h5, .ref h6, .ref h7, .ref h8])), (h1, .inl (cI, 3, .inl (va_cpy p1_settings v_settings 0 0 3))), (h2, .inl (cI, 16, .inl v_names)), (h3, .inl (cI, 16, .inl v_unders)), (h4, .inl (cI, 16, .inl v_manys)), (h5, .inl (cI, 17, .inl v_firsts)), (h6, .inl (cI, 2464, .inl v_volumes)), (h7, .inl (cI, 2464, .inl v_bad)), (h8, .inl (cI, 2464, .inl v_written)), (h9, .inr (3, [.ref h10, .int p1_blocks, .ref h11, .ref h12, .ref h13, .ref h14, .ref h15, .ref h16, .ref h17])), (h10, .inl (cI, 3, .inl p1_settings)), (h11, .inl (cI, 16, .inl p1_names)), (h12, .inl (cI, 16, .inl p1_unders)), (h13, .inl (cI, 16, .inl p1_manys)), (h14, .inl (cI, 17, .inl p1_firsts)), (h15, .inl (cI, 2464, .inl p1_volumes)), (h16, .inl (cI, 2464, .inl p1_bad)), (h17, .inl (cI, 2464, .inl p1_written))] H := hP
  have hD : va_D A [(h0, .inr (3, [.ref h1, .int p1_blocks, .ref h2, .ref h3, .ref h4, .ref h5, .ref h6, .ref h7, .ref h8])), (h1, .inl (cI, 3, .inl (va_cpy p1_settings v_settings 0 0 3))), (h2, .inl (cI, 16, .inl v_names)), (h3, .inl (cI, 16, .inl v_unders)), (h4, .inl (cI, 16, .inl v_manys)), (h5, .inl (cI, 17, .inl v_firsts)), (h6, .inl (cI, 2464, .inl v_volumes)), (h7, .inl (cI, 2464, .inl v_bad)), (h8, .inl (cI, 2464, .inl v_written)), (h9, .inr (3, [.ref h10, .int p1_blocks, .ref h11, .ref h12, .ref h13, .ref h14, .ref h15, .ref h16, .ref h17])), (h10, .inl (cI, 3, .inl p1_settings)), (h11, .inl (cI, 16, .inl p1_names)), (h12, .inl (cI, 16, .inl p1_unders)), (h13, .inl (cI, 16, .inl p1_manys)), (h14, .inl (cI, 17, .inl p1_firsts)), (h15, .inl (cI, 2464, .inl p1_volumes)), (h16, .inl (cI, 2464, .inl p1_bad)), (h17, .inl (cI, 2464, .inl p1_written))] := hD
  refine lv_aload_n hx hb dX3_copyFrom_22 rfl (lv_at hl 1 rfl) ?_
  refine va_get (D := (dC, dI)) (ci := 3) (v := .ref h11) (C := RX3) (T := TX3) (N := 9) hx hb hts inX3_copyFrom_X3 hown hK hP 9 rfl rfl 2 (by decide) (hts _ kX3_copyFrom_7) (fun _ h9 => h9) rfl dX3_copyFrom_23 ?_
  refine lv_iconst (v := 0) hx hb dX3_copyFrom_26 (by decide) ?_
  refine lv_aload_n hx hb dX3_copyFrom_27 rfl (lv_at hl 0 rfl) ?_
  refine va_get (D := (dC, dI)) (ci := 3) (v := .ref h2) (C := RX3) (T := TX3) (N := 9) hx hb hts inX3_copyFrom_X3 hown hK hP 0 rfl rfl 2 (by decide) (hts _ kX3_copyFrom_7) (fun _ h9 => h9) rfl dX3_copyFrom_28 ?_
  refine lv_iconst (v := 0) hx hb dX3_copyFrom_31 (by decide) ?_
  refine lv_bipush (v := 16) hx hb dX3_copyFrom_32 (by decide) ?_
  refine x_copyi (k := 16) hx hb (hml.trans hl.1.symm) hown (hts _ kX3_copyFrom_3) (hts _ kX3_copyFrom_4) (hts _ kX3_copyFrom_5) (hts _ kX3_copyFrom_6) hK hP hD hS 11 2 0 0 rfl rfl rfl rfl (by decide) (by decide) (by decide) rfl (Nat.le_of_ble_eq_true rfl) (Nat.le_of_ble_eq_true rfl) dX3_copyFrom_34 (fun H locs hP hD hS => ?_)
  have hP : va_P (dC, dI) vwCl [(h0, .inr (3, [.ref h1, .int p1_blocks, .ref h2, .ref h3, .ref h4, .ref h5, .ref h6, .ref h7, .ref h8])), (h1, .inl (cI, 3, .inl (va_cpy p1_settings v_settings 0 0 3))), (h2, .inl (cI, 16, .inl (va_cpy p1_names v_names 0 0 16))), (h3, .inl (cI, 16, .inl v_unders)), (h4, .inl (cI, 16, .inl v_manys)), (h5, .inl (cI, 17, .inl v_firsts)), (h6, .inl (cI, 2464, .inl v_volumes)), (h7, .inl (cI, 2464, .inl v_bad)), (h8, .inl (cI, 2464, .inl v_written)), (h9, .inr (3, [.ref h10, .int p1_blocks, .ref h11, .ref h12, .ref h13, .ref h14, .ref h15, .ref h16, .ref h17])), (h10, .inl (cI, 3, .inl p1_settings)), (h11, .inl (cI, 16, .inl p1_names)), (h12, .inl (cI, 16, .inl p1_unders)), (h13, .inl (cI, 16, .inl p1_manys)), (h14, .inl (cI, 17, .inl p1_firsts)), (h15, .inl (cI, 2464, .inl p1_volumes)), (h16, .inl (cI, 2464, .inl p1_bad)), (h17, .inl (cI, 2464, .inl p1_written))] H := hP
  have hD : va_D A [(h0, .inr (3, [.ref h1, .int p1_blocks, .ref h2, .ref h3, .ref h4, .ref h5, .ref h6, .ref h7, .ref h8])), (h1, .inl (cI, 3, .inl (va_cpy p1_settings v_settings 0 0 3))), (h2, .inl (cI, 16, .inl (va_cpy p1_names v_names 0 0 16))), (h3, .inl (cI, 16, .inl v_unders)), (h4, .inl (cI, 16, .inl v_manys)), (h5, .inl (cI, 17, .inl v_firsts)), (h6, .inl (cI, 2464, .inl v_volumes)), (h7, .inl (cI, 2464, .inl v_bad)), (h8, .inl (cI, 2464, .inl v_written)), (h9, .inr (3, [.ref h10, .int p1_blocks, .ref h11, .ref h12, .ref h13, .ref h14, .ref h15, .ref h16, .ref h17])), (h10, .inl (cI, 3, .inl p1_settings)), (h11, .inl (cI, 16, .inl p1_names)), (h12, .inl (cI, 16, .inl p1_unders)), (h13, .inl (cI, 16, .inl p1_manys)), (h14, .inl (cI, 17, .inl p1_firsts)), (h15, .inl (cI, 2464, .inl p1_volumes)), (h16, .inl (cI, 2464, .inl p1_bad)), (h17, .inl (cI, 2464, .inl p1_written))] := hD
  refine lv_aload_n hx hb dX3_copyFrom_37 rfl (lv_at hl 1 rfl) ?_
  refine va_get (D := (dC, dI)) (ci := 3) (v := .ref h12) (C := RX3) (T := TX3) (N := 9) hx hb hts inX3_copyFrom_X3 hown hK hP 9 rfl rfl 3 (by decide) (hts _ kX3_copyFrom_8) (fun _ h9 => h9) rfl dX3_copyFrom_38 ?_
  refine lv_iconst (v := 0) hx hb dX3_copyFrom_41 (by decide) ?_
  refine lv_aload_n hx hb dX3_copyFrom_42 rfl (lv_at hl 0 rfl) ?_
  refine va_get (D := (dC, dI)) (ci := 3) (v := .ref h3) (C := RX3) (T := TX3) (N := 9) hx hb hts inX3_copyFrom_X3 hown hK hP 0 rfl rfl 3 (by decide) (hts _ kX3_copyFrom_8) (fun _ h9 => h9) rfl dX3_copyFrom_43 ?_
  refine lv_iconst (v := 0) hx hb dX3_copyFrom_46 (by decide) ?_
  refine lv_bipush (v := 16) hx hb dX3_copyFrom_47 (by decide) ?_
  refine x_copyi (k := 16) hx hb (hml.trans hl.1.symm) hown (hts _ kX3_copyFrom_3) (hts _ kX3_copyFrom_4) (hts _ kX3_copyFrom_5) (hts _ kX3_copyFrom_6) hK hP hD hS 12 3 0 0 rfl rfl rfl rfl (by decide) (by decide) (by decide) rfl (Nat.le_of_ble_eq_true rfl) (Nat.le_of_ble_eq_true rfl) dX3_copyFrom_49 (fun H locs hP hD hS => ?_)
  have hP : va_P (dC, dI) vwCl [(h0, .inr (3, [.ref h1, .int p1_blocks, .ref h2, .ref h3, .ref h4, .ref h5, .ref h6, .ref h7, .ref h8])), (h1, .inl (cI, 3, .inl (va_cpy p1_settings v_settings 0 0 3))), (h2, .inl (cI, 16, .inl (va_cpy p1_names v_names 0 0 16))), (h3, .inl (cI, 16, .inl (va_cpy p1_unders v_unders 0 0 16))), (h4, .inl (cI, 16, .inl v_manys)), (h5, .inl (cI, 17, .inl v_firsts)), (h6, .inl (cI, 2464, .inl v_volumes)), (h7, .inl (cI, 2464, .inl v_bad)), (h8, .inl (cI, 2464, .inl v_written)), (h9, .inr (3, [.ref h10, .int p1_blocks, .ref h11, .ref h12, .ref h13, .ref h14, .ref h15, .ref h16, .ref h17])), (h10, .inl (cI, 3, .inl p1_settings)), (h11, .inl (cI, 16, .inl p1_names)), (h12, .inl (cI, 16, .inl p1_unders)), (h13, .inl (cI, 16, .inl p1_manys)), (h14, .inl (cI, 17, .inl p1_firsts)), (h15, .inl (cI, 2464, .inl p1_volumes)), (h16, .inl (cI, 2464, .inl p1_bad)), (h17, .inl (cI, 2464, .inl p1_written))] H := hP
  have hD : va_D A [(h0, .inr (3, [.ref h1, .int p1_blocks, .ref h2, .ref h3, .ref h4, .ref h5, .ref h6, .ref h7, .ref h8])), (h1, .inl (cI, 3, .inl (va_cpy p1_settings v_settings 0 0 3))), (h2, .inl (cI, 16, .inl (va_cpy p1_names v_names 0 0 16))), (h3, .inl (cI, 16, .inl (va_cpy p1_unders v_unders 0 0 16))), (h4, .inl (cI, 16, .inl v_manys)), (h5, .inl (cI, 17, .inl v_firsts)), (h6, .inl (cI, 2464, .inl v_volumes)), (h7, .inl (cI, 2464, .inl v_bad)), (h8, .inl (cI, 2464, .inl v_written)), (h9, .inr (3, [.ref h10, .int p1_blocks, .ref h11, .ref h12, .ref h13, .ref h14, .ref h15, .ref h16, .ref h17])), (h10, .inl (cI, 3, .inl p1_settings)), (h11, .inl (cI, 16, .inl p1_names)), (h12, .inl (cI, 16, .inl p1_unders)), (h13, .inl (cI, 16, .inl p1_manys)), (h14, .inl (cI, 17, .inl p1_firsts)), (h15, .inl (cI, 2464, .inl p1_volumes)), (h16, .inl (cI, 2464, .inl p1_bad)), (h17, .inl (cI, 2464, .inl p1_written))] := hD
  refine lv_aload_n hx hb dX3_copyFrom_52 rfl (lv_at hl 1 rfl) ?_
  refine va_get (D := (dC, dI)) (ci := 3) (v := .ref h13) (C := RX3) (T := TX3) (N := 9) hx hb hts inX3_copyFrom_X3 hown hK hP 9 rfl rfl 4 (by decide) (hts _ kX3_copyFrom_9) (fun _ h9 => h9) rfl dX3_copyFrom_53 ?_
  refine lv_iconst (v := 0) hx hb dX3_copyFrom_56 (by decide) ?_
  refine lv_aload_n hx hb dX3_copyFrom_57 rfl (lv_at hl 0 rfl) ?_
  refine va_get (D := (dC, dI)) (ci := 3) (v := .ref h4) (C := RX3) (T := TX3) (N := 9) hx hb hts inX3_copyFrom_X3 hown hK hP 0 rfl rfl 4 (by decide) (hts _ kX3_copyFrom_9) (fun _ h9 => h9) rfl dX3_copyFrom_58 ?_
  refine lv_iconst (v := 0) hx hb dX3_copyFrom_61 (by decide) ?_
  refine lv_bipush (v := 16) hx hb dX3_copyFrom_62 (by decide) ?_
  refine x_copyi (k := 16) hx hb (hml.trans hl.1.symm) hown (hts _ kX3_copyFrom_3) (hts _ kX3_copyFrom_4) (hts _ kX3_copyFrom_5) (hts _ kX3_copyFrom_6) hK hP hD hS 13 4 0 0 rfl rfl rfl rfl (by decide) (by decide) (by decide) rfl (Nat.le_of_ble_eq_true rfl) (Nat.le_of_ble_eq_true rfl) dX3_copyFrom_64 (fun H locs hP hD hS => ?_)
  have hP : va_P (dC, dI) vwCl [(h0, .inr (3, [.ref h1, .int p1_blocks, .ref h2, .ref h3, .ref h4, .ref h5, .ref h6, .ref h7, .ref h8])), (h1, .inl (cI, 3, .inl (va_cpy p1_settings v_settings 0 0 3))), (h2, .inl (cI, 16, .inl (va_cpy p1_names v_names 0 0 16))), (h3, .inl (cI, 16, .inl (va_cpy p1_unders v_unders 0 0 16))), (h4, .inl (cI, 16, .inl (va_cpy p1_manys v_manys 0 0 16))), (h5, .inl (cI, 17, .inl v_firsts)), (h6, .inl (cI, 2464, .inl v_volumes)), (h7, .inl (cI, 2464, .inl v_bad)), (h8, .inl (cI, 2464, .inl v_written)), (h9, .inr (3, [.ref h10, .int p1_blocks, .ref h11, .ref h12, .ref h13, .ref h14, .ref h15, .ref h16, .ref h17])), (h10, .inl (cI, 3, .inl p1_settings)), (h11, .inl (cI, 16, .inl p1_names)), (h12, .inl (cI, 16, .inl p1_unders)), (h13, .inl (cI, 16, .inl p1_manys)), (h14, .inl (cI, 17, .inl p1_firsts)), (h15, .inl (cI, 2464, .inl p1_volumes)), (h16, .inl (cI, 2464, .inl p1_bad)), (h17, .inl (cI, 2464, .inl p1_written))] H := hP
  have hD : va_D A [(h0, .inr (3, [.ref h1, .int p1_blocks, .ref h2, .ref h3, .ref h4, .ref h5, .ref h6, .ref h7, .ref h8])), (h1, .inl (cI, 3, .inl (va_cpy p1_settings v_settings 0 0 3))), (h2, .inl (cI, 16, .inl (va_cpy p1_names v_names 0 0 16))), (h3, .inl (cI, 16, .inl (va_cpy p1_unders v_unders 0 0 16))), (h4, .inl (cI, 16, .inl (va_cpy p1_manys v_manys 0 0 16))), (h5, .inl (cI, 17, .inl v_firsts)), (h6, .inl (cI, 2464, .inl v_volumes)), (h7, .inl (cI, 2464, .inl v_bad)), (h8, .inl (cI, 2464, .inl v_written)), (h9, .inr (3, [.ref h10, .int p1_blocks, .ref h11, .ref h12, .ref h13, .ref h14, .ref h15, .ref h16, .ref h17])), (h10, .inl (cI, 3, .inl p1_settings)), (h11, .inl (cI, 16, .inl p1_names)), (h12, .inl (cI, 16, .inl p1_unders)), (h13, .inl (cI, 16, .inl p1_manys)), (h14, .inl (cI, 17, .inl p1_firsts)), (h15, .inl (cI, 2464, .inl p1_volumes)), (h16, .inl (cI, 2464, .inl p1_bad)), (h17, .inl (cI, 2464, .inl p1_written))] := hD
  refine lv_aload_n hx hb dX3_copyFrom_67 rfl (lv_at hl 1 rfl) ?_
  refine va_get (D := (dC, dI)) (ci := 3) (v := .ref h14) (C := RX3) (T := TX3) (N := 9) hx hb hts inX3_copyFrom_X3 hown hK hP 9 rfl rfl 5 (by decide) (hts _ kX3_copyFrom_10) (fun _ h9 => h9) rfl dX3_copyFrom_68 ?_
  refine lv_iconst (v := 0) hx hb dX3_copyFrom_71 (by decide) ?_
  refine lv_aload_n hx hb dX3_copyFrom_72 rfl (lv_at hl 0 rfl) ?_
  refine va_get (D := (dC, dI)) (ci := 3) (v := .ref h5) (C := RX3) (T := TX3) (N := 9) hx hb hts inX3_copyFrom_X3 hown hK hP 0 rfl rfl 5 (by decide) (hts _ kX3_copyFrom_10) (fun _ h9 => h9) rfl dX3_copyFrom_73 ?_
  refine lv_iconst (v := 0) hx hb dX3_copyFrom_76 (by decide) ?_
  refine lv_bipush (v := 17) hx hb dX3_copyFrom_77 (by decide) ?_
  refine x_copyi (k := 17) hx hb (hml.trans hl.1.symm) hown (hts _ kX3_copyFrom_3) (hts _ kX3_copyFrom_4) (hts _ kX3_copyFrom_5) (hts _ kX3_copyFrom_6) hK hP hD hS 14 5 0 0 rfl rfl rfl rfl (by decide) (by decide) (by decide) rfl (Nat.le_of_ble_eq_true rfl) (Nat.le_of_ble_eq_true rfl) dX3_copyFrom_79 (fun H locs hP hD hS => ?_)
  have hP : va_P (dC, dI) vwCl [(h0, .inr (3, [.ref h1, .int p1_blocks, .ref h2, .ref h3, .ref h4, .ref h5, .ref h6, .ref h7, .ref h8])), (h1, .inl (cI, 3, .inl (va_cpy p1_settings v_settings 0 0 3))), (h2, .inl (cI, 16, .inl (va_cpy p1_names v_names 0 0 16))), (h3, .inl (cI, 16, .inl (va_cpy p1_unders v_unders 0 0 16))), (h4, .inl (cI, 16, .inl (va_cpy p1_manys v_manys 0 0 16))), (h5, .inl (cI, 17, .inl (va_cpy p1_firsts v_firsts 0 0 17))), (h6, .inl (cI, 2464, .inl v_volumes)), (h7, .inl (cI, 2464, .inl v_bad)), (h8, .inl (cI, 2464, .inl v_written)), (h9, .inr (3, [.ref h10, .int p1_blocks, .ref h11, .ref h12, .ref h13, .ref h14, .ref h15, .ref h16, .ref h17])), (h10, .inl (cI, 3, .inl p1_settings)), (h11, .inl (cI, 16, .inl p1_names)), (h12, .inl (cI, 16, .inl p1_unders)), (h13, .inl (cI, 16, .inl p1_manys)), (h14, .inl (cI, 17, .inl p1_firsts)), (h15, .inl (cI, 2464, .inl p1_volumes)), (h16, .inl (cI, 2464, .inl p1_bad)), (h17, .inl (cI, 2464, .inl p1_written))] H := hP
  have hD : va_D A [(h0, .inr (3, [.ref h1, .int p1_blocks, .ref h2, .ref h3, .ref h4, .ref h5, .ref h6, .ref h7, .ref h8])), (h1, .inl (cI, 3, .inl (va_cpy p1_settings v_settings 0 0 3))), (h2, .inl (cI, 16, .inl (va_cpy p1_names v_names 0 0 16))), (h3, .inl (cI, 16, .inl (va_cpy p1_unders v_unders 0 0 16))), (h4, .inl (cI, 16, .inl (va_cpy p1_manys v_manys 0 0 16))), (h5, .inl (cI, 17, .inl (va_cpy p1_firsts v_firsts 0 0 17))), (h6, .inl (cI, 2464, .inl v_volumes)), (h7, .inl (cI, 2464, .inl v_bad)), (h8, .inl (cI, 2464, .inl v_written)), (h9, .inr (3, [.ref h10, .int p1_blocks, .ref h11, .ref h12, .ref h13, .ref h14, .ref h15, .ref h16, .ref h17])), (h10, .inl (cI, 3, .inl p1_settings)), (h11, .inl (cI, 16, .inl p1_names)), (h12, .inl (cI, 16, .inl p1_unders)), (h13, .inl (cI, 16, .inl p1_manys)), (h14, .inl (cI, 17, .inl p1_firsts)), (h15, .inl (cI, 2464, .inl p1_volumes)), (h16, .inl (cI, 2464, .inl p1_bad)), (h17, .inl (cI, 2464, .inl p1_written))] := hD
  refine lv_aload_n hx hb dX3_copyFrom_82 rfl (lv_at hl 0 rfl) ?_
  obtain ⟨q1, hq1, hd⟩ := bnd_some hd
  have hPc : va_P (dC, dI) vwCl [(h0, .inr (3, [.ref h1, .int p1_blocks, .ref h2, .ref h3, .ref h4, .ref h5, .ref h6, .ref h7, .ref h8])), (h5, .inl (cI, 17, .inl (va_cpy p1_firsts v_firsts 0 0 17)))] _ := hP.sub [0, 5] rfl
  have hDc := hD.sub (ws' := [(h0, .inr (3, [.ref h1, .int p1_blocks, .ref h2, .ref h3, .ref h4, .ref h5, .ref h6, .ref h7, .ref h8])), (h5, .inl (cI, 17, .inl (va_cpy p1_firsts v_firsts 0 0 17)))]) [0, 5] (by decide) rfl
  have hFc := va_free (wc := [(h0, .inr (3, [.ref h1, .int p1_blocks, .ref h2, .ref h3, .ref h4, .ref h5, .ref h6, .ref h7, .ref h8])), (h5, .inl (cI, 17, .inl (va_cpy p1_firsts v_firsts 0 0 17)))]) hD hS hA [0, 5] rfl
  refine va_calli (va_runV (As := []) (rest := []) ⟨hx, hb, hml, hown, hts⟩ (c_X3_cells l dC dI cI cC cZ cT cG h0 h1 h2 h3 h4 h5 h6 h7 h8 H.size p1_blocks (va_cpy p1_firsts v_firsts 0 0 17) q1 hq1) (cwV 0 hts gX3_copyFrom_X3_cells rfl rfl rfl hv_X3_cells ⟨Nat.le_of_ble_eq_true rfl, Nat.le_of_ble_eq_true rfl⟩) ⟨preB_fb, va_recv hK hPc (ci := 3) (q0 := 0) rfl rfl, fun U hU hW => preB_mk hU hW hPc hK hDc hN⟩ rfl rfl hl.1 rfl (lv_room (Nat.le_of_ble_eq_true rfl)) dX3_copyFrom_83 ⟨Nat.zero_le _, Nat.zero_le _⟩) hS (fun q _ h => hFc q h) hFc (fun r_ u_ t H locs ht hvm hw hB hz1 hk1 hS => ?_)
  have hw : r_ = q1 := hw
  have hw := hw.symm
  subst hw
  obtain ⟨hP, hD⟩ := x_join (ws' := [(h0, .inr (3, [.ref h1, .int p1_blocks, .ref h2, .ref h3, .ref h4, .ref h5, .ref h6, .ref h7, .ref h8])), (h1, .inl (cI, 3, .inl (va_cpy p1_settings v_settings 0 0 3))), (h2, .inl (cI, 16, .inl (va_cpy p1_names v_names 0 0 16))), (h3, .inl (cI, 16, .inl (va_cpy p1_unders v_unders 0 0 16))), (h4, .inl (cI, 16, .inl (va_cpy p1_manys v_manys 0 0 16))), (h5, .inl (cI, 17, .inl (va_cpy p1_firsts v_firsts 0 0 17))), (h6, .inl (cI, 2464, .inl v_volumes)), (h7, .inl (cI, 2464, .inl v_bad)), (h8, .inl (cI, 2464, .inl v_written)), (h9, .inr (3, [.ref h10, .int p1_blocks, .ref h11, .ref h12, .ref h13, .ref h14, .ref h15, .ref h16, .ref h17])), (h10, .inl (cI, 3, .inl p1_settings)), (h11, .inl (cI, 16, .inl p1_names)), (h12, .inl (cI, 16, .inl p1_unders)), (h13, .inl (cI, 16, .inl p1_manys)), (h14, .inl (cI, 17, .inl p1_firsts)), (h15, .inl (cI, 2464, .inl p1_volumes)), (h16, .inl (cI, 2464, .inl p1_bad)), (h17, .inl (cI, 2464, .inl p1_written))]) hP hD [0, 5] [1, 2, 3, 4, 6, 7, 8, 9, 10, 11, 12, 13, 14, 15, 16, 17] rfl rfl (by decide) (by decide) hk1 hFc ht hB [16, 0, 1, 2, 3, 17, 4, 5, 6, 7, 8, 9, 10, 11, 12, 13, 14, 15] (by decide) rfl
  clear hPc hDc hFc hk1 hB ht hz1 hvm
  refine lv_istore_n (lv' := [(2, .int q1), (0, .ref h0), (1, .ref h9)]) hx hb dX3_copyFrom_86 rfl hl (by decide) rfl (fun ls hl => ?_)
  refine lv_aload_n hx hb dX3_copyFrom_87 rfl (lv_at hl 2 rfl) ?_
  refine va_get (D := (dC, dI)) (ci := 3) (v := .ref h15) (C := RX3) (T := TX3) (N := 9) hx hb hts inX3_copyFrom_X3 hown hK hP 9 rfl rfl 6 (by decide) (hts _ kX3_copyFrom_11) (fun _ h9 => h9) rfl dX3_copyFrom_88 ?_
  refine lv_iconst (v := 0) hx hb dX3_copyFrom_91 (by decide) ?_
  refine lv_aload_n hx hb dX3_copyFrom_92 rfl (lv_at hl 1 rfl) ?_
  refine va_get (D := (dC, dI)) (ci := 3) (v := .ref h6) (C := RX3) (T := TX3) (N := 9) hx hb hts inX3_copyFrom_X3 hown hK hP 0 rfl rfl 6 (by decide) (hts _ kX3_copyFrom_11) (fun _ h9 => h9) rfl dX3_copyFrom_93 ?_
  refine lv_iconst (v := 0) hx hb dX3_copyFrom_96 (by decide) ?_
  refine lv_iload_n hx hb dX3_copyFrom_97 rfl (lv_at hl 0 rfl) ?_
  obtain ⟨g2, hd⟩ := gd_some hd
  refine x_copyi (k := q1.toNatClampNeg) hx hb (hml.trans hl.1.symm) hown (hts _ kX3_copyFrom_3) (hts _ kX3_copyFrom_4) (hts _ kX3_copyFrom_5) (hts _ kX3_copyFrom_6) hK hP hD hS 15 6 0 0 rfl rfl rfl rfl (cpb_0 g2) (cpb_1 g2) (cpb_1 g2) rfl (Nat.le_of_ble_eq_true rfl) (Nat.le_of_ble_eq_true rfl) dX3_copyFrom_98 (fun H locs hP hD hS => ?_)
  have hP : va_P (dC, dI) vwCl [(h0, .inr (3, [.ref h1, .int p1_blocks, .ref h2, .ref h3, .ref h4, .ref h5, .ref h6, .ref h7, .ref h8])), (h1, .inl (cI, 3, .inl (va_cpy p1_settings v_settings 0 0 3))), (h2, .inl (cI, 16, .inl (va_cpy p1_names v_names 0 0 16))), (h3, .inl (cI, 16, .inl (va_cpy p1_unders v_unders 0 0 16))), (h4, .inl (cI, 16, .inl (va_cpy p1_manys v_manys 0 0 16))), (h5, .inl (cI, 17, .inl (va_cpy p1_firsts v_firsts 0 0 17))), (h6, .inl (cI, 2464, .inl (va_cpy p1_volumes v_volumes 0 0 q1.toNatClampNeg))), (h7, .inl (cI, 2464, .inl v_bad)), (h8, .inl (cI, 2464, .inl v_written)), (h9, .inr (3, [.ref h10, .int p1_blocks, .ref h11, .ref h12, .ref h13, .ref h14, .ref h15, .ref h16, .ref h17])), (h10, .inl (cI, 3, .inl p1_settings)), (h11, .inl (cI, 16, .inl p1_names)), (h12, .inl (cI, 16, .inl p1_unders)), (h13, .inl (cI, 16, .inl p1_manys)), (h14, .inl (cI, 17, .inl p1_firsts)), (h15, .inl (cI, 2464, .inl p1_volumes)), (h16, .inl (cI, 2464, .inl p1_bad)), (h17, .inl (cI, 2464, .inl p1_written))] H := hP
  have hD : va_D A [(h0, .inr (3, [.ref h1, .int p1_blocks, .ref h2, .ref h3, .ref h4, .ref h5, .ref h6, .ref h7, .ref h8])), (h1, .inl (cI, 3, .inl (va_cpy p1_settings v_settings 0 0 3))), (h2, .inl (cI, 16, .inl (va_cpy p1_names v_names 0 0 16))), (h3, .inl (cI, 16, .inl (va_cpy p1_unders v_unders 0 0 16))), (h4, .inl (cI, 16, .inl (va_cpy p1_manys v_manys 0 0 16))), (h5, .inl (cI, 17, .inl (va_cpy p1_firsts v_firsts 0 0 17))), (h6, .inl (cI, 2464, .inl (va_cpy p1_volumes v_volumes 0 0 q1.toNatClampNeg))), (h7, .inl (cI, 2464, .inl v_bad)), (h8, .inl (cI, 2464, .inl v_written)), (h9, .inr (3, [.ref h10, .int p1_blocks, .ref h11, .ref h12, .ref h13, .ref h14, .ref h15, .ref h16, .ref h17])), (h10, .inl (cI, 3, .inl p1_settings)), (h11, .inl (cI, 16, .inl p1_names)), (h12, .inl (cI, 16, .inl p1_unders)), (h13, .inl (cI, 16, .inl p1_manys)), (h14, .inl (cI, 17, .inl p1_firsts)), (h15, .inl (cI, 2464, .inl p1_volumes)), (h16, .inl (cI, 2464, .inl p1_bad)), (h17, .inl (cI, 2464, .inl p1_written))] := hD
  refine lv_aload_n hx hb dX3_copyFrom_101 rfl (lv_at hl 2 rfl) ?_
  refine va_get (D := (dC, dI)) (ci := 3) (v := .ref h16) (C := RX3) (T := TX3) (N := 9) hx hb hts inX3_copyFrom_X3 hown hK hP 9 rfl rfl 7 (by decide) (hts _ kX3_copyFrom_12) (fun _ h9 => h9) rfl dX3_copyFrom_102 ?_
  refine lv_iconst (v := 0) hx hb dX3_copyFrom_105 (by decide) ?_
  refine lv_aload_n hx hb dX3_copyFrom_106 rfl (lv_at hl 1 rfl) ?_
  refine va_get (D := (dC, dI)) (ci := 3) (v := .ref h7) (C := RX3) (T := TX3) (N := 9) hx hb hts inX3_copyFrom_X3 hown hK hP 0 rfl rfl 7 (by decide) (hts _ kX3_copyFrom_12) (fun _ h9 => h9) rfl dX3_copyFrom_107 ?_
  refine lv_iconst (v := 0) hx hb dX3_copyFrom_110 (by decide) ?_
  refine lv_iload_n hx hb dX3_copyFrom_111 rfl (lv_at hl 0 rfl) ?_
  obtain ⟨g3, hd⟩ := gd_some hd
  refine x_copyi (k := q1.toNatClampNeg) hx hb (hml.trans hl.1.symm) hown (hts _ kX3_copyFrom_3) (hts _ kX3_copyFrom_4) (hts _ kX3_copyFrom_5) (hts _ kX3_copyFrom_6) hK hP hD hS 16 7 0 0 rfl rfl rfl rfl (cpb_0 g3) (cpb_1 g3) (cpb_1 g3) rfl (Nat.le_of_ble_eq_true rfl) (Nat.le_of_ble_eq_true rfl) dX3_copyFrom_112 (fun H locs hP hD hS => ?_)
  have hP : va_P (dC, dI) vwCl [(h0, .inr (3, [.ref h1, .int p1_blocks, .ref h2, .ref h3, .ref h4, .ref h5, .ref h6, .ref h7, .ref h8])), (h1, .inl (cI, 3, .inl (va_cpy p1_settings v_settings 0 0 3))), (h2, .inl (cI, 16, .inl (va_cpy p1_names v_names 0 0 16))), (h3, .inl (cI, 16, .inl (va_cpy p1_unders v_unders 0 0 16))), (h4, .inl (cI, 16, .inl (va_cpy p1_manys v_manys 0 0 16))), (h5, .inl (cI, 17, .inl (va_cpy p1_firsts v_firsts 0 0 17))), (h6, .inl (cI, 2464, .inl (va_cpy p1_volumes v_volumes 0 0 q1.toNatClampNeg))), (h7, .inl (cI, 2464, .inl (va_cpy p1_bad v_bad 0 0 q1.toNatClampNeg))), (h8, .inl (cI, 2464, .inl v_written)), (h9, .inr (3, [.ref h10, .int p1_blocks, .ref h11, .ref h12, .ref h13, .ref h14, .ref h15, .ref h16, .ref h17])), (h10, .inl (cI, 3, .inl p1_settings)), (h11, .inl (cI, 16, .inl p1_names)), (h12, .inl (cI, 16, .inl p1_unders)), (h13, .inl (cI, 16, .inl p1_manys)), (h14, .inl (cI, 17, .inl p1_firsts)), (h15, .inl (cI, 2464, .inl p1_volumes)), (h16, .inl (cI, 2464, .inl p1_bad)), (h17, .inl (cI, 2464, .inl p1_written))] H := hP
  have hD : va_D A [(h0, .inr (3, [.ref h1, .int p1_blocks, .ref h2, .ref h3, .ref h4, .ref h5, .ref h6, .ref h7, .ref h8])), (h1, .inl (cI, 3, .inl (va_cpy p1_settings v_settings 0 0 3))), (h2, .inl (cI, 16, .inl (va_cpy p1_names v_names 0 0 16))), (h3, .inl (cI, 16, .inl (va_cpy p1_unders v_unders 0 0 16))), (h4, .inl (cI, 16, .inl (va_cpy p1_manys v_manys 0 0 16))), (h5, .inl (cI, 17, .inl (va_cpy p1_firsts v_firsts 0 0 17))), (h6, .inl (cI, 2464, .inl (va_cpy p1_volumes v_volumes 0 0 q1.toNatClampNeg))), (h7, .inl (cI, 2464, .inl (va_cpy p1_bad v_bad 0 0 q1.toNatClampNeg))), (h8, .inl (cI, 2464, .inl v_written)), (h9, .inr (3, [.ref h10, .int p1_blocks, .ref h11, .ref h12, .ref h13, .ref h14, .ref h15, .ref h16, .ref h17])), (h10, .inl (cI, 3, .inl p1_settings)), (h11, .inl (cI, 16, .inl p1_names)), (h12, .inl (cI, 16, .inl p1_unders)), (h13, .inl (cI, 16, .inl p1_manys)), (h14, .inl (cI, 17, .inl p1_firsts)), (h15, .inl (cI, 2464, .inl p1_volumes)), (h16, .inl (cI, 2464, .inl p1_bad)), (h17, .inl (cI, 2464, .inl p1_written))] := hD
  refine lv_aload_n hx hb dX3_copyFrom_115 rfl (lv_at hl 2 rfl) ?_
  refine va_get (D := (dC, dI)) (ci := 3) (v := .ref h17) (C := RX3) (T := TX3) (N := 9) hx hb hts inX3_copyFrom_X3 hown hK hP 9 rfl rfl 8 (by decide) (hts _ kX3_copyFrom_13) (fun _ h9 => h9) rfl dX3_copyFrom_116 ?_
  refine lv_iconst (v := 0) hx hb dX3_copyFrom_119 (by decide) ?_
  refine lv_aload_n hx hb dX3_copyFrom_120 rfl (lv_at hl 1 rfl) ?_
  refine va_get (D := (dC, dI)) (ci := 3) (v := .ref h8) (C := RX3) (T := TX3) (N := 9) hx hb hts inX3_copyFrom_X3 hown hK hP 0 rfl rfl 8 (by decide) (hts _ kX3_copyFrom_13) (fun _ h9 => h9) rfl dX3_copyFrom_121 ?_
  refine lv_iconst (v := 0) hx hb dX3_copyFrom_124 (by decide) ?_
  refine lv_iload_n hx hb dX3_copyFrom_125 rfl (lv_at hl 0 rfl) ?_
  obtain ⟨g4, hd⟩ := gd_some hd
  refine x_copyi (k := q1.toNatClampNeg) hx hb (hml.trans hl.1.symm) hown (hts _ kX3_copyFrom_3) (hts _ kX3_copyFrom_4) (hts _ kX3_copyFrom_5) (hts _ kX3_copyFrom_6) hK hP hD hS 17 8 0 0 rfl rfl rfl rfl (cpb_0 g4) (cpb_1 g4) (cpb_1 g4) rfl (Nat.le_of_ble_eq_true rfl) (Nat.le_of_ble_eq_true rfl) dX3_copyFrom_126 (fun H locs hP hD hS => ?_)
  have hP : va_P (dC, dI) vwCl [(h0, .inr (3, [.ref h1, .int p1_blocks, .ref h2, .ref h3, .ref h4, .ref h5, .ref h6, .ref h7, .ref h8])), (h1, .inl (cI, 3, .inl (va_cpy p1_settings v_settings 0 0 3))), (h2, .inl (cI, 16, .inl (va_cpy p1_names v_names 0 0 16))), (h3, .inl (cI, 16, .inl (va_cpy p1_unders v_unders 0 0 16))), (h4, .inl (cI, 16, .inl (va_cpy p1_manys v_manys 0 0 16))), (h5, .inl (cI, 17, .inl (va_cpy p1_firsts v_firsts 0 0 17))), (h6, .inl (cI, 2464, .inl (va_cpy p1_volumes v_volumes 0 0 q1.toNatClampNeg))), (h7, .inl (cI, 2464, .inl (va_cpy p1_bad v_bad 0 0 q1.toNatClampNeg))), (h8, .inl (cI, 2464, .inl (va_cpy p1_written v_written 0 0 q1.toNatClampNeg))), (h9, .inr (3, [.ref h10, .int p1_blocks, .ref h11, .ref h12, .ref h13, .ref h14, .ref h15, .ref h16, .ref h17])), (h10, .inl (cI, 3, .inl p1_settings)), (h11, .inl (cI, 16, .inl p1_names)), (h12, .inl (cI, 16, .inl p1_unders)), (h13, .inl (cI, 16, .inl p1_manys)), (h14, .inl (cI, 17, .inl p1_firsts)), (h15, .inl (cI, 2464, .inl p1_volumes)), (h16, .inl (cI, 2464, .inl p1_bad)), (h17, .inl (cI, 2464, .inl p1_written))] H := hP
  have hD : va_D A [(h0, .inr (3, [.ref h1, .int p1_blocks, .ref h2, .ref h3, .ref h4, .ref h5, .ref h6, .ref h7, .ref h8])), (h1, .inl (cI, 3, .inl (va_cpy p1_settings v_settings 0 0 3))), (h2, .inl (cI, 16, .inl (va_cpy p1_names v_names 0 0 16))), (h3, .inl (cI, 16, .inl (va_cpy p1_unders v_unders 0 0 16))), (h4, .inl (cI, 16, .inl (va_cpy p1_manys v_manys 0 0 16))), (h5, .inl (cI, 17, .inl (va_cpy p1_firsts v_firsts 0 0 17))), (h6, .inl (cI, 2464, .inl (va_cpy p1_volumes v_volumes 0 0 q1.toNatClampNeg))), (h7, .inl (cI, 2464, .inl (va_cpy p1_bad v_bad 0 0 q1.toNatClampNeg))), (h8, .inl (cI, 2464, .inl (va_cpy p1_written v_written 0 0 q1.toNatClampNeg))), (h9, .inr (3, [.ref h10, .int p1_blocks, .ref h11, .ref h12, .ref h13, .ref h14, .ref h15, .ref h16, .ref h17])), (h10, .inl (cI, 3, .inl p1_settings)), (h11, .inl (cI, 16, .inl p1_names)), (h12, .inl (cI, 16, .inl p1_unders)), (h13, .inl (cI, 16, .inl p1_manys)), (h14, .inl (cI, 17, .inl p1_firsts)), (h15, .inl (cI, 2464, .inl p1_volumes)), (h16, .inl (cI, 2464, .inl p1_bad)), (h17, .inl (cI, 2464, .inl p1_written))] := hD
  cases hd
  exact hend hP hD hS dX3_copyFrom_129
def rmX3_hasBlock : Room := { frames := 0, cells := 0, slots := 0, locals := 0 }
theorem kX3_hasBlock_1 : (Cond.fieldLink RX3 36 "CassetteTones$Tape" "blocks" "I") ∈ wsX3_hasBlock := List.mem_of_getElem? (i := 1) (by decide +kernel)
theorem inX3_hasBlock_X3 : ∀ w ∈ wsX30, w ∈ wsX3_hasBlock := by decide +kernel
theorem hp_X3_hasBlock : yX3_hasBlock.cls ≠ "java/lang/invoke/MethodHandle" ∧ yX3_hasBlock.cls ≠ "java/lang/invoke/VarHandle" ∧ (parseMethodDescriptor yX3_hasBlock.desc).map (fun d => d.parameters.length) = some 1 := by decide +kernel
theorem hv_X3_hasBlock : yX3_hasBlock.cls = RX3 ∧ yX3_hasBlock.cls ≠ "java/lang/invoke/MethodHandle" ∧ yX3_hasBlock.cls ≠ "java/lang/invoke/VarHandle" ∧ (parseMethodDescriptor yX3_hasBlock.desc).map (fun d => d.parameters.length) = some 1 := by decide +kernel
set_option maxHeartbeats 4000000 in
set_option maxRecDepth 100000 in
theorem c_X3_hasBlock (l : Launch) (dC : Nat → ClassId) (dI : Nat → Nat → Nat) (cI cC cZ cT cG : ClassId) (h0 h1 h2 h3 h4 h5 h6 h7 h8 : Nat) (sz : Nat) (v_blocks : Int32) (p1 : Int32) (r : Int32) (hd : den_X3_hasBlock v_blocks p1 = some r) : Met l yX3_hasBlock wsX3_hasBlock rmX3_hasBlock (va_Pc [.ref h0, .int p1] (preB sz (dC, dI) [(h0, .inr (3, [.ref h1, .int v_blocks, .ref h2, .ref h3, .ref h4, .ref h5, .ref h6, .ref h7, .ref h8]))] [(cI, .int), (cC, .char), (cZ, .boolean), (cT, .object "CassetteTones$Tape"), (cG, .object "CassetteTones$Telling")])) (va_Qi (S := Unit) (fun v _ => v = r) (fun _ t => posB (dC, dI) [(h0, .inr (3, [.ref h1, .int v_blocks, .ref h2, .ref h3, .ref h4, .ref h5, .ref h6, .ref h7, .ref h8]))] [(cI, .int), (cC, .char), (cZ, .boolean), (cT, .object "CassetteTones$Tape"), (cG, .object "CassetteTones$Telling")] (va_A [(h0, .inr (3, [.ref h1, .int v_blocks, .ref h2, .ref h3, .ref h4, .ref h5, .ref h6, .ref h7, .ref h8]))] sz) t) (va_A [(h0, .inr (3, [.ref h1, .int v_blocks, .ref h2, .ref h3, .ref h4, .ref h5, .ref h6, .ref h7, .ref h8]))] sz)) 0 0 (va_A [(h0, .inr (3, [.ref h1, .int v_blocks, .ref h2, .ref h3, .ref h4, .ref h5, .ref h6, .ref h7, .ref h8]))] sz) := by
  refine x_met_z (by decide) rfl (Nat.le_of_ble_eq_true rfl) ?_
  intro p e s m args below meth c A Q H locs ls hx hb hml hown hts hK hN hA hP hD hS hl hend
  have hown : s.vm.findClass RX3 = some m.cls := hown
  have hl : lv_has ls 2 [(0, .ref h0), (1, .int p1)] := hl
  unfold den_X3_hasBlock at hd
  refine lv_iload_n hx hb dX3_hasBlock_0 rfl (lv_at hl 1 rfl) ?_
  refine lv_if_lt (tgt := 16) hx hb dX3_hasBlock_1 (by decide) (fun c1 => ?_) (fun c1 => ?_)
  · replace hd := ite_t c1 hd
    refine lv_iconst (v := 0) hx hb dX3_hasBlock_16 (by decide) ?_
    cases hd
    exact hend (by rfl) (by rfl) hP hD hS dX3_hasBlock_17
  · replace hd := ite_f c1 hd
    refine lv_iload_n hx hb dX3_hasBlock_4 rfl (lv_at hl 1 rfl) ?_
    refine lv_aload_n hx hb dX3_hasBlock_5 rfl (lv_at hl 0 rfl) ?_
    refine va_get (D := (dC, dI)) (ci := 3) (v := .int v_blocks) (C := RX3) (T := TX3) (N := 9) hx hb hts inX3_hasBlock_X3 hown hK hP 0 rfl rfl 1 (by decide) (hts _ kX3_hasBlock_1) (fun _ h9 => h9) rfl dX3_hasBlock_6 ?_
    refine lv_icmp_ge (tgt := 16) hx hb dX3_hasBlock_9 (by decide) (fun c2 => ?_) (fun c2 => ?_)
    · replace hd := ite_t c2 hd
      refine lv_iconst (v := 0) hx hb dX3_hasBlock_16 (by decide) ?_
      cases hd
      exact hend (by rfl) (by rfl) hP hD hS dX3_hasBlock_17
    · replace hd := ite_f c2 hd
      refine lv_iconst (v := 1) hx hb dX3_hasBlock_12 (by decide) ?_
      refine lv_goto (tgt := 17) hx hb dX3_hasBlock_13 (by decide) ?_
      cases hd
      exact hend (by rfl) (by rfl) hP hD hS dX3_hasBlock_17
def rmX3_hasCell : Room := { frames := 1, cells := 0, slots := 0, locals := 20 }
theorem hp_X3_hasCell : yX3_hasCell.cls ≠ "java/lang/invoke/MethodHandle" ∧ yX3_hasCell.cls ≠ "java/lang/invoke/VarHandle" ∧ (parseMethodDescriptor yX3_hasCell.desc).map (fun d => d.parameters.length) = some 1 := by decide +kernel
theorem hv_X3_hasCell : yX3_hasCell.cls = RX3 ∧ yX3_hasCell.cls ≠ "java/lang/invoke/MethodHandle" ∧ yX3_hasCell.cls ≠ "java/lang/invoke/VarHandle" ∧ (parseMethodDescriptor yX3_hasCell.desc).map (fun d => d.parameters.length) = some 1 := by decide +kernel
set_option maxHeartbeats 4000000 in
set_option maxRecDepth 100000 in
theorem c_X3_hasCell (l : Launch) (dC : Nat → ClassId) (dI : Nat → Nat → Nat) (cI cC cZ cT cG : ClassId) (h0 h1 h2 h3 h4 h5 h6 h7 h8 : Nat) (sz : Nat) (v_blocks : Int32) (v_firsts : (Nat → Int32)) (p1 : Int32) (r : Int32) (hd : den_X3_hasCell v_blocks v_firsts p1 = some r) : Met l yX3_hasCell wsX3_hasCell rmX3_hasCell (va_Pc [.ref h0, .int p1] (preB sz (dC, dI) [(h0, .inr (3, [.ref h1, .int v_blocks, .ref h2, .ref h3, .ref h4, .ref h5, .ref h6, .ref h7, .ref h8])), (h5, .inl (cI, 17, .inl v_firsts))] [(cI, .int), (cC, .char), (cZ, .boolean), (cT, .object "CassetteTones$Tape"), (cG, .object "CassetteTones$Telling")])) (va_Qi (S := Unit) (fun v _ => v = r) (fun _ t => posB (dC, dI) [(h0, .inr (3, [.ref h1, .int v_blocks, .ref h2, .ref h3, .ref h4, .ref h5, .ref h6, .ref h7, .ref h8])), (h5, .inl (cI, 17, .inl v_firsts))] [(cI, .int), (cC, .char), (cZ, .boolean), (cT, .object "CassetteTones$Tape"), (cG, .object "CassetteTones$Telling")] (va_A [(h0, .inr (3, [.ref h1, .int v_blocks, .ref h2, .ref h3, .ref h4, .ref h5, .ref h6, .ref h7, .ref h8])), (h5, .inl (cI, 17, .inl v_firsts))] sz) t) (va_A [(h0, .inr (3, [.ref h1, .int v_blocks, .ref h2, .ref h3, .ref h4, .ref h5, .ref h6, .ref h7, .ref h8])), (h5, .inl (cI, 17, .inl v_firsts))] sz)) 0 0 (va_A [(h0, .inr (3, [.ref h1, .int v_blocks, .ref h2, .ref h3, .ref h4, .ref h5, .ref h6, .ref h7, .ref h8])), (h5, .inl (cI, 17, .inl v_firsts))] sz) := by
  refine x_met_z (by decide) rfl (Nat.le_of_ble_eq_true rfl) ?_
  intro p e s m args below meth c A Q H locs ls hx hb hml hown hts hK hN hA hP hD hS hl hend
  have hown : s.vm.findClass RX3 = some m.cls := hown
  have hl : lv_has ls 2 [(0, .ref h0), (1, .int p1)] := hl
  unfold den_X3_hasCell at hd
  refine lv_iload_n hx hb dX3_hasCell_0 rfl (lv_at hl 1 rfl) ?_
  refine lv_if_lt (tgt := 16) hx hb dX3_hasCell_1 (by decide) (fun c1 => ?_) (fun c1 => ?_)
  · replace hd := ite_t c1 hd
    refine lv_iconst (v := 0) hx hb dX3_hasCell_16 (by decide) ?_
    cases hd
    exact hend (by rfl) (by rfl) hP hD hS dX3_hasCell_17
  · replace hd := ite_f c1 hd
    refine lv_iload_n hx hb dX3_hasCell_4 rfl (lv_at hl 1 rfl) ?_
    refine lv_aload_n hx hb dX3_hasCell_5 rfl (lv_at hl 0 rfl) ?_
    obtain ⟨q2, hq2, hd⟩ := bnd_some hd
    have hPc : va_P (dC, dI) vwCl [(h0, .inr (3, [.ref h1, .int v_blocks, .ref h2, .ref h3, .ref h4, .ref h5, .ref h6, .ref h7, .ref h8])), (h5, .inl (cI, 17, .inl v_firsts))] _ := hP.sub [0, 1] rfl
    have hDc := hD.sub (ws' := [(h0, .inr (3, [.ref h1, .int v_blocks, .ref h2, .ref h3, .ref h4, .ref h5, .ref h6, .ref h7, .ref h8])), (h5, .inl (cI, 17, .inl v_firsts))]) [0, 1] (by decide) rfl
    have hFc := va_free (wc := [(h0, .inr (3, [.ref h1, .int v_blocks, .ref h2, .ref h3, .ref h4, .ref h5, .ref h6, .ref h7, .ref h8])), (h5, .inl (cI, 17, .inl v_firsts))]) hD hS hA [0, 1] rfl
    refine va_calli (va_runV (As := []) (rest := [.int p1]) ⟨hx, hb, hml, hown, hts⟩ (c_X3_cells l dC dI cI cC cZ cT cG h0 h1 h2 h3 h4 h5 h6 h7 h8 H.size v_blocks v_firsts q2 hq2) (cwV 0 hts gX3_hasCell_X3_cells rfl rfl rfl hv_X3_cells ⟨Nat.le_of_ble_eq_true rfl, Nat.le_of_ble_eq_true rfl⟩) ⟨preB_fb, va_recv hK hPc (ci := 3) (q0 := 0) rfl rfl, fun U hU hW => preB_mk hU hW hPc hK hDc hN⟩ rfl rfl hl.1 rfl (lv_room (Nat.le_of_ble_eq_true rfl)) dX3_hasCell_6 ⟨Nat.zero_le _, Nat.zero_le _⟩) hS (fun q _ h => hFc q h) hFc (fun r_ u_ t H locs ht hvm hw hB hz1 hk1 hS => ?_)
    have hw : r_ = q2 := hw
    have hw := hw.symm
    subst hw
    obtain ⟨hP, hD⟩ := x_join (ws' := [(h0, .inr (3, [.ref h1, .int v_blocks, .ref h2, .ref h3, .ref h4, .ref h5, .ref h6, .ref h7, .ref h8])), (h5, .inl (cI, 17, .inl v_firsts))]) hP hD [0, 1] [] rfl rfl (by decide) (by decide) hk1 hFc ht hB [0, 1] (by decide) rfl
    clear hPc hDc hFc hk1 hB ht hz1 hvm
    refine lv_icmp_ge (tgt := 16) hx hb dX3_hasCell_9 (by decide) (fun c3 => ?_) (fun c3 => ?_)
    · replace hd := ite_t c3 hd
      refine lv_iconst (v := 0) hx hb dX3_hasCell_16 (by decide) ?_
      cases hd
      exact hend (by rfl) (by rfl) hP hD hS dX3_hasCell_17
    · replace hd := ite_f c3 hd
      refine lv_iconst (v := 1) hx hb dX3_hasCell_12 (by decide) ?_
      refine lv_goto (tgt := 17) hx hb dX3_hasCell_13 (by decide) ?_
      cases hd
      exact hend (by rfl) (by rfl) hP hD hS dX3_hasCell_17
def rmX3_errorOfBlock : Room := { frames := 1, cells := 0, slots := 0, locals := 21 }
theorem kX3_errorOfBlock_1 : (Cond.fieldLink RX3 36 "CassetteTones$Tape" "blocks" "I") ∈ wsX3_errorOfBlock := List.mem_of_getElem? (i := 1) (by decide +kernel)
theorem inX3_errorOfBlock_X3 : ∀ w ∈ wsX30, w ∈ wsX3_errorOfBlock := by decide +kernel
theorem hp_X3_errorOfBlock : yX3_errorOfBlock.cls ≠ "java/lang/invoke/MethodHandle" ∧ yX3_errorOfBlock.cls ≠ "java/lang/invoke/VarHandle" ∧ (parseMethodDescriptor yX3_errorOfBlock.desc).map (fun d => d.parameters.length) = some 3 := by decide +kernel
theorem hv_X3_errorOfBlock : yX3_errorOfBlock.cls = RX3 ∧ yX3_errorOfBlock.cls ≠ "java/lang/invoke/MethodHandle" ∧ yX3_errorOfBlock.cls ≠ "java/lang/invoke/VarHandle" ∧ (parseMethodDescriptor yX3_errorOfBlock.desc).map (fun d => d.parameters.length) = some 3 := by decide +kernel
set_option maxHeartbeats 4000000 in
set_option maxRecDepth 100000 in
theorem c_X3_errorOfBlock (l : Launch) (dC : Nat → ClassId) (dI : Nat → Nat → Nat) (cI cC cZ cT cG : ClassId) (h0 h1 h2 h3 h4 h5 h6 h7 h8 : Nat) (sz : Nat) (v_blocks : Int32) (p1 : Int32) (p2 : Int32) (p3 : Int32) (r : Int32) (hd : den_X3_errorOfBlock v_blocks p1 p2 p3 = some r) : Met l yX3_errorOfBlock wsX3_errorOfBlock rmX3_errorOfBlock (va_Pc [.ref h0, .int p1, .int p2, .int p3] (preB sz (dC, dI) [(h0, .inr (3, [.ref h1, .int v_blocks, .ref h2, .ref h3, .ref h4, .ref h5, .ref h6, .ref h7, .ref h8]))] [(cI, .int), (cC, .char), (cZ, .boolean), (cT, .object "CassetteTones$Tape"), (cG, .object "CassetteTones$Telling")])) (va_Qi (S := Unit) (fun v _ => v = r) (fun _ t => posB (dC, dI) [(h0, .inr (3, [.ref h1, .int v_blocks, .ref h2, .ref h3, .ref h4, .ref h5, .ref h6, .ref h7, .ref h8]))] [(cI, .int), (cC, .char), (cZ, .boolean), (cT, .object "CassetteTones$Tape"), (cG, .object "CassetteTones$Telling")] (va_A [(h0, .inr (3, [.ref h1, .int v_blocks, .ref h2, .ref h3, .ref h4, .ref h5, .ref h6, .ref h7, .ref h8]))] sz) t) (va_A [(h0, .inr (3, [.ref h1, .int v_blocks, .ref h2, .ref h3, .ref h4, .ref h5, .ref h6, .ref h7, .ref h8]))] sz)) 0 0 (va_A [(h0, .inr (3, [.ref h1, .int v_blocks, .ref h2, .ref h3, .ref h4, .ref h5, .ref h6, .ref h7, .ref h8]))] sz) := by
  refine x_met_i (by decide) rfl (Nat.le_of_ble_eq_true rfl) ?_
  intro p e s m args below meth c A Q H locs ls hx hb hml hown hts hK hN hA hP hD hS hl hend
  have hown : s.vm.findClass RX3 = some m.cls := hown
  have hl : lv_has ls 4 [(0, .ref h0), (1, .int p1), (2, .int p2), (3, .int p3)] := hl
  unfold den_X3_errorOfBlock at hd
  refine lv_iload_n hx hb dX3_errorOfBlock_0 rfl (lv_at hl 2 rfl) ?_
  refine lv_bipush (v := -6) hx hb dX3_errorOfBlock_1 (by decide) ?_
  obtain ⟨J1, eJ1, hd⟩ := nm_ex hd
  have KJ1 : ∀ (u_ : Unit) (hd : J1 u_ = some r) (H : Heap) (locs : List Loc) (ls : Array Slot), va_P (dC, dI) vwCl [(h0, .inr (3, [.ref h1, .int v_blocks, .ref h2, .ref h3, .ref h4, .ref h5, .ref h6, .ref h7, .ref h8]))] H → va_D A [(h0, .inr (3, [.ref h1, .int v_blocks, .ref h2, .ref h3, .ref h4, .ref h5, .ref h6, .ref h7, .ref h8]))] → va_S A s.heap H locs → lv_has ls 4 [(0, .ref h0), (1, .int p1), (3, .int p3)] → W p l e rmX3_errorOfBlock s m args below meth c H locs 0 0 Q (F0 m 16 ls []) := by
    intro u_ hd H locs ls hP hD hS hl
    replace hd := jx1 eJ1 hd
    refine lv_iload_n hx hb dX3_errorOfBlock_16 rfl (lv_at hl 1 rfl) ?_
    refine lv_if_lt (tgt := 37) hx hb dX3_errorOfBlock_17 (by decide) (fun c2 => ?_) (fun c2 => ?_)
    · replace hd := ite_t c2 hd
      refine lv_bipush (v := -2) hx hb dX3_errorOfBlock_37 (by decide) ?_
      cases hd
      exact hend (by rfl) hP hD hS dX3_errorOfBlock_39
    · replace hd := ite_f c2 hd
      refine lv_iload_n hx hb dX3_errorOfBlock_20 rfl (lv_at hl 1 rfl) ?_
      refine lv_bipush (v := 99) hx hb dX3_errorOfBlock_21 (by decide) ?_
      refine lv_icmp_gt (tgt := 37) hx hb dX3_errorOfBlock_23 (by decide) (fun c3 => ?_) (fun c3 => ?_)
      · replace hd := ite_t c3 hd
        refine lv_bipush (v := -2) hx hb dX3_errorOfBlock_37 (by decide) ?_
        cases hd
        exact hend (by rfl) hP hD hS dX3_errorOfBlock_39
      · replace hd := ite_f c3 hd
        refine lv_iload_n hx hb dX3_errorOfBlock_26 rfl (lv_at hl 2 rfl) ?_
        refine lv_iconst (v := 1) hx hb dX3_errorOfBlock_27 (by decide) ?_
        refine lv_icmp_lt (tgt := 37) hx hb dX3_errorOfBlock_28 (by decide) (fun c4 => ?_) (fun c4 => ?_)
        · replace hd := ite_t c4 hd
          refine lv_bipush (v := -2) hx hb dX3_errorOfBlock_37 (by decide) ?_
          cases hd
          exact hend (by rfl) hP hD hS dX3_errorOfBlock_39
        · replace hd := ite_f c4 hd
          refine lv_iload_n hx hb dX3_errorOfBlock_31 rfl (lv_at hl 2 rfl) ?_
          refine lv_bipush (v := 7) hx hb dX3_errorOfBlock_32 (by decide) ?_
          refine lv_icmp_le (tgt := 40) hx hb dX3_errorOfBlock_34 (by decide) (fun c5 => ?_) (fun c5 => ?_)
          · replace hd := ite_t c5 hd
            refine lv_aload_n hx hb dX3_errorOfBlock_40 rfl (lv_at hl 0 rfl) ?_
            refine va_get (D := (dC, dI)) (ci := 3) (v := .int v_blocks) (C := RX3) (T := TX3) (N := 9) hx hb hts inX3_errorOfBlock_X3 hown hK hP 0 rfl rfl 1 (by decide) (hts _ kX3_errorOfBlock_1) (fun _ h9 => h9) rfl dX3_errorOfBlock_41 ?_
            refine lv_bipush (v := 16) hx hb dX3_errorOfBlock_44 (by decide) ?_
            refine lv_icmp_lt (tgt := 54) hx hb dX3_errorOfBlock_46 (by decide) (fun c6 => ?_) (fun c6 => ?_)
            · replace hd := ite_t c6 hd
              refine lv_iconst (v := 0) hx hb dX3_errorOfBlock_54 (by decide) ?_
              cases hd
              exact hend (by rfl) hP hD hS dX3_errorOfBlock_55
            · replace hd := ite_f c6 hd
              refine lv_bipush (v := -4) hx hb dX3_errorOfBlock_49 (by decide) ?_
              refine lv_goto (tgt := 55) hx hb dX3_errorOfBlock_51 (by decide) ?_
              cases hd
              exact hend (by rfl) hP hD hS dX3_errorOfBlock_55
          · replace hd := ite_f c5 hd
            refine lv_bipush (v := -2) hx hb dX3_errorOfBlock_37 (by decide) ?_
            cases hd
            exact hend (by rfl) hP hD hS dX3_errorOfBlock_39
  refine lv_icmp_eq (tgt := 16) hx hb dX3_errorOfBlock_3 (by decide) (fun c7 => ?_) (fun c7 => ?_)
  · replace hd := ite_t c7 hd
    exact KJ1 () hd _ _ _ hP hD hS (lv_sub hl [0, 1, 3] rfl)
  · replace hd := ite_f c7 hd
    refine lv_aload_n hx hb dX3_errorOfBlock_6 rfl (lv_at hl 0 rfl) ?_
    refine lv_iload_n hx hb dX3_errorOfBlock_7 rfl (lv_at hl 2 rfl) ?_
    obtain ⟨q8, hq8, hd⟩ := bnd_some hd
    have hPc : va_P (dC, dI) vwCl [(h0, .inr (3, [.ref h1, .int v_blocks, .ref h2, .ref h3, .ref h4, .ref h5, .ref h6, .ref h7, .ref h8]))] _ := hP.sub [0] rfl
    have hDc := hD.sub (ws' := [(h0, .inr (3, [.ref h1, .int v_blocks, .ref h2, .ref h3, .ref h4, .ref h5, .ref h6, .ref h7, .ref h8]))]) [0] (by decide) rfl
    have hFc := va_free (wc := [(h0, .inr (3, [.ref h1, .int v_blocks, .ref h2, .ref h3, .ref h4, .ref h5, .ref h6, .ref h7, .ref h8]))]) hD hS hA [0] rfl
    refine va_calli (va_runV (As := [.int p2]) (rest := []) ⟨hx, hb, hml, hown, hts⟩ (c_X3_hasBlock l dC dI cI cC cZ cT cG h0 h1 h2 h3 h4 h5 h6 h7 h8 H.size v_blocks p2 q8 hq8) (cwV 1 hts gX3_errorOfBlock_X3_hasBlock rfl rfl rfl hv_X3_hasBlock ⟨Nat.le_of_ble_eq_true rfl, Nat.le_of_ble_eq_true rfl⟩) ⟨preB_fb, va_recv hK hPc (ci := 3) (q0 := 0) rfl rfl, fun U hU hW => preB_mk hU hW hPc hK hDc hN⟩ rfl rfl hl.1 rfl (lv_room (Nat.le_of_ble_eq_true rfl)) dX3_errorOfBlock_8 ⟨Nat.zero_le _, Nat.zero_le _⟩) hS (fun q _ h => hFc q h) hFc (fun r_ u_ t H locs ht hvm hw hB hz1 hk1 hS => ?_)
    have hw : r_ = q8 := hw
    have hw := hw.symm
    subst hw
    obtain ⟨hP, hD⟩ := x_join (ws' := [(h0, .inr (3, [.ref h1, .int v_blocks, .ref h2, .ref h3, .ref h4, .ref h5, .ref h6, .ref h7, .ref h8]))]) hP hD [0] [] rfl rfl (by decide) (by decide) hk1 hFc ht hB [0] (by decide) rfl
    clear hPc hDc hFc hk1 hB ht hz1 hvm
    refine lv_if_ne (tgt := 16) hx hb dX3_errorOfBlock_11 (by decide) (fun c9 => ?_) (fun c9 => ?_)
    · replace hd := ite_f c9 hd
      exact KJ1 () hd _ _ _ hP hD hS (lv_sub hl [0, 1, 3] rfl)
    · replace hd := ite_t c9 hd
      refine lv_iconst (v := -1) hx hb dX3_errorOfBlock_14 (by decide) ?_
      cases hd
      exact hend (by rfl) hP hD hS dX3_errorOfBlock_15
def rmJ6_bitCount_0f7a4 : Room := { frames := 0, cells := 0, slots := 0, locals := 0 }
theorem kJ6_bitCount_0f7a4_1 : (Cond.constant RJ6 265 (1431655765)) ∈ wsJ6_bitCount_0f7a4 := List.mem_of_getElem? (i := 1) (by decide +kernel)
theorem kJ6_bitCount_0f7a4_2 : (Cond.constant RJ6 266 (858993459)) ∈ wsJ6_bitCount_0f7a4 := List.mem_of_getElem? (i := 2) (by decide +kernel)
theorem kJ6_bitCount_0f7a4_3 : (Cond.constant RJ6 267 (252645135)) ∈ wsJ6_bitCount_0f7a4 := List.mem_of_getElem? (i := 3) (by decide +kernel)
theorem hp_J6_bitCount_0f7a4 : yJ6_bitCount_0f7a4.cls ≠ "java/lang/invoke/MethodHandle" ∧ yJ6_bitCount_0f7a4.cls ≠ "java/lang/invoke/VarHandle" ∧ (parseMethodDescriptor yJ6_bitCount_0f7a4.desc).map (fun d => d.parameters.length) = some 1 := by decide +kernel
set_option maxHeartbeats 4000000 in
set_option maxRecDepth 100000 in
theorem c_J6_bitCount_0f7a4 (l : Launch) (dC : Nat → ClassId) (dI : Nat → Nat → Nat) (cI cC cZ cT cG : ClassId) (sz : Nat) (p1 : Int32) (r : Int32) (hd : den_J6_bitCount_0f7a4 p1 = some r) : Met l yJ6_bitCount_0f7a4 wsJ6_bitCount_0f7a4 rmJ6_bitCount_0f7a4 (va_Pc [.int p1] (preB sz (dC, dI) [] [(cI, .int), (cC, .char), (cZ, .boolean), (cT, .object "CassetteTones$Tape"), (cG, .object "CassetteTones$Telling")])) (va_Qi (S := Unit) (fun v _ => v = r) (fun _ t => posB (dC, dI) [] [(cI, .int), (cC, .char), (cZ, .boolean), (cT, .object "CassetteTones$Tape"), (cG, .object "CassetteTones$Telling")] (va_A [] sz) t) (va_A [] sz)) 0 0 (va_A [] sz) := by
  refine x_met_i (by decide) rfl (Nat.le_of_ble_eq_true rfl) ?_
  intro p e s m args below meth c A Q H locs ls hx hb hml hown hts hK hN hA hP hD hS hl hend
  have hown : s.vm.findClass RJ6 = some m.cls := hown
  have hl : lv_has ls 1 [(0, .int p1)] := hl
  unfold den_J6_bitCount_0f7a4 at hd
  refine lv_iload_n hx hb dJ6_bitCount_0f7a4_0 rfl (lv_at hl 0 rfl) ?_
  refine lv_iload_n hx hb dJ6_bitCount_0f7a4_1 rfl (lv_at hl 0 rfl) ?_
  refine lv_iconst (v := 1) hx hb dJ6_bitCount_0f7a4_2 (by decide) ?_
  refine lv_iushr (v := ((p1).toUInt32 >>> (((1 : Int32)).toUInt32 &&& Int32.toUInt32 31)).toInt32) hx hb dJ6_bitCount_0f7a4_3 rfl ?_
  refine lv_ldcw (v := 1431655765) hx hb hown (hts _ kJ6_bitCount_0f7a4_1) dJ6_bitCount_0f7a4_4 ?_
  refine lv_iand hx hb dJ6_bitCount_0f7a4_7 ?_
  refine lv_isub hx hb dJ6_bitCount_0f7a4_8 ?_
  refine lv_topi (fun x1 ex1 => ?_)
  replace hd := nm_some ex1 hd
  refine lv_istore_n (lv' := [(0, .int x1)]) hx hb dJ6_bitCount_0f7a4_9 rfl hl (by decide) rfl (fun ls hl => ?_)
  refine lv_iload_n hx hb dJ6_bitCount_0f7a4_10 rfl (lv_at hl 0 rfl) ?_
  refine lv_ldcw (v := 858993459) hx hb hown (hts _ kJ6_bitCount_0f7a4_2) dJ6_bitCount_0f7a4_11 ?_
  refine lv_iand hx hb dJ6_bitCount_0f7a4_14 ?_
  refine lv_iload_n hx hb dJ6_bitCount_0f7a4_15 rfl (lv_at hl 0 rfl) ?_
  refine lv_iconst (v := 2) hx hb dJ6_bitCount_0f7a4_16 (by decide) ?_
  refine lv_iushr (v := ((x1).toUInt32 >>> (((2 : Int32)).toUInt32 &&& Int32.toUInt32 31)).toInt32) hx hb dJ6_bitCount_0f7a4_17 rfl ?_
  refine lv_ldcw (v := 858993459) hx hb hown (hts _ kJ6_bitCount_0f7a4_2) dJ6_bitCount_0f7a4_18 ?_
  refine lv_iand hx hb dJ6_bitCount_0f7a4_21 ?_
  refine lv_iadd hx hb dJ6_bitCount_0f7a4_22 ?_
  refine lv_topi (fun x2 ex2 => ?_)
  replace hd := nm_some ex2 hd
  refine lv_istore_n (lv' := [(0, .int x2)]) hx hb dJ6_bitCount_0f7a4_23 rfl hl (by decide) rfl (fun ls hl => ?_)
  refine lv_iload_n hx hb dJ6_bitCount_0f7a4_24 rfl (lv_at hl 0 rfl) ?_
  refine lv_iload_n hx hb dJ6_bitCount_0f7a4_25 rfl (lv_at hl 0 rfl) ?_
  refine lv_iconst (v := 4) hx hb dJ6_bitCount_0f7a4_26 (by decide) ?_
  refine lv_iushr (v := ((x2).toUInt32 >>> (((4 : Int32)).toUInt32 &&& Int32.toUInt32 31)).toInt32) hx hb dJ6_bitCount_0f7a4_27 rfl ?_
  refine lv_iadd hx hb dJ6_bitCount_0f7a4_28 ?_
  refine lv_ldcw (v := 252645135) hx hb hown (hts _ kJ6_bitCount_0f7a4_3) dJ6_bitCount_0f7a4_29 ?_
  refine lv_iand hx hb dJ6_bitCount_0f7a4_32 ?_
  refine lv_topi (fun x3 ex3 => ?_)
  replace hd := nm_some ex3 hd
  refine lv_istore_n (lv' := [(0, .int x3)]) hx hb dJ6_bitCount_0f7a4_33 rfl hl (by decide) rfl (fun ls hl => ?_)
  refine lv_iload_n hx hb dJ6_bitCount_0f7a4_34 rfl (lv_at hl 0 rfl) ?_
  refine lv_iload_n hx hb dJ6_bitCount_0f7a4_35 rfl (lv_at hl 0 rfl) ?_
  refine lv_bipush (v := 8) hx hb dJ6_bitCount_0f7a4_36 (by decide) ?_
  refine lv_iushr (v := ((x3).toUInt32 >>> (((8 : Int32)).toUInt32 &&& Int32.toUInt32 31)).toInt32) hx hb dJ6_bitCount_0f7a4_38 rfl ?_
  refine lv_iadd hx hb dJ6_bitCount_0f7a4_39 ?_
  refine lv_topi (fun x4 ex4 => ?_)
  replace hd := nm_some ex4 hd
  refine lv_istore_n (lv' := [(0, .int x4)]) hx hb dJ6_bitCount_0f7a4_40 rfl hl (by decide) rfl (fun ls hl => ?_)
  refine lv_iload_n hx hb dJ6_bitCount_0f7a4_41 rfl (lv_at hl 0 rfl) ?_
  refine lv_iload_n hx hb dJ6_bitCount_0f7a4_42 rfl (lv_at hl 0 rfl) ?_
  refine lv_bipush (v := 16) hx hb dJ6_bitCount_0f7a4_43 (by decide) ?_
  refine lv_iushr (v := ((x4).toUInt32 >>> (((16 : Int32)).toUInt32 &&& Int32.toUInt32 31)).toInt32) hx hb dJ6_bitCount_0f7a4_45 rfl ?_
  refine lv_iadd hx hb dJ6_bitCount_0f7a4_46 ?_
  refine lv_topi (fun x5 ex5 => ?_)
  replace hd := nm_some ex5 hd
  refine lv_istore_n (lv' := [(0, .int x5)]) hx hb dJ6_bitCount_0f7a4_47 rfl hl (by decide) rfl (fun ls hl => ?_)
  refine lv_iload_n hx hb dJ6_bitCount_0f7a4_48 rfl (lv_at hl 0 rfl) ?_
  refine lv_bipush (v := 63) hx hb dJ6_bitCount_0f7a4_49 (by decide) ?_
  refine lv_iand hx hb dJ6_bitCount_0f7a4_51 ?_
  cases hd
  exact hend (by rfl) hP hD hS dJ6_bitCount_0f7a4_52
def rmX3_writeByte : Room := { frames := 1, cells := 0, slots := 0, locals := 20 }
theorem kX3_writeByte_1 : (Cond.fieldLink RX3 33 "CassetteTones$Tape" "written" "[I") ∈ wsX3_writeByte := List.mem_of_getElem? (i := 1) (by decide +kernel)
theorem inX3_writeByte_X3 : ∀ w ∈ wsX30, w ∈ wsX3_writeByte := by decide +kernel
theorem hp_X3_writeByte : yX3_writeByte.cls ≠ "java/lang/invoke/MethodHandle" ∧ yX3_writeByte.cls ≠ "java/lang/invoke/VarHandle" ∧ (parseMethodDescriptor yX3_writeByte.desc).map (fun d => d.parameters.length) = some 2 := by decide +kernel
theorem hv_X3_writeByte : yX3_writeByte.cls = RX3 ∧ yX3_writeByte.cls ≠ "java/lang/invoke/MethodHandle" ∧ yX3_writeByte.cls ≠ "java/lang/invoke/VarHandle" ∧ (parseMethodDescriptor yX3_writeByte.desc).map (fun d => d.parameters.length) = some 2 := by decide +kernel
set_option maxHeartbeats 4000000 in
set_option maxRecDepth 100000 in
theorem c_X3_writeByte (l : Launch) (dC : Nat → ClassId) (dI : Nat → Nat → Nat) (cI cC cZ cT cG : ClassId) (h0 h1 h2 h3 h4 h5 h6 h7 h8 : Nat) (sz : Nat) (v_blocks : Int32) (v_written : (Nat → Int32)) (p1 : Int32) (p2 : Int32) (r : (Nat → Int32)) (hd : den_X3_writeByte v_written p1 p2 = some r) : Met l yX3_writeByte wsX3_writeByte rmX3_writeByte (va_Pc [.ref h0, .int p1, .int p2] (preB sz (dC, dI) [(h0, .inr (3, [.ref h1, .int v_blocks, .ref h2, .ref h3, .ref h4, .ref h5, .ref h6, .ref h7, .ref h8])), (h8, .inl (cI, 2464, .inl v_written))] [(cI, .int), (cC, .char), (cZ, .boolean), (cT, .object "CassetteTones$Tape"), (cG, .object "CassetteTones$Telling")])) (va_Qv (S := Unit) (fun _ => True) (fun _ t => posB (dC, dI) [(h0, .inr (3, [.ref h1, .int v_blocks, .ref h2, .ref h3, .ref h4, .ref h5, .ref h6, .ref h7, .ref h8])), (h8, .inl (cI, 2464, .inl r))] [(cI, .int), (cC, .char), (cZ, .boolean), (cT, .object "CassetteTones$Tape"), (cG, .object "CassetteTones$Telling")] (va_A [(h0, .inr (3, [.ref h1, .int v_blocks, .ref h2, .ref h3, .ref h4, .ref h5, .ref h6, .ref h7, .ref h8])), (h8, .inl (cI, 2464, .inl v_written))] sz) t) (va_A [(h0, .inr (3, [.ref h1, .int v_blocks, .ref h2, .ref h3, .ref h4, .ref h5, .ref h6, .ref h7, .ref h8])), (h8, .inl (cI, 2464, .inl v_written))] sz)) 0 0 (va_A [(h0, .inr (3, [.ref h1, .int v_blocks, .ref h2, .ref h3, .ref h4, .ref h5, .ref h6, .ref h7, .ref h8])), (h8, .inl (cI, 2464, .inl v_written))] sz) := by
  refine x_met_v (by decide) rfl (Nat.le_of_ble_eq_true rfl) ?_
  intro p e s m args below meth c A Q H locs ls hx hb hml hown hts hK hN hA hP hD hS hl hend
  have hown : s.vm.findClass RX3 = some m.cls := hown
  have hl : lv_has ls 4 [(0, .ref h0), (1, .int p1), (2, .int p2)] := hl
  unfold den_X3_writeByte at hd
  refine lv_iconst (v := 0) hx hb dX3_writeByte_0 (by decide) ?_
  refine lv_istore_n (lv' := [(3, .int (0 : Int32)), (0, .ref h0), (1, .int p1), (2, .int p2)]) hx hb dX3_writeByte_1 rfl hl (by decide) rfl (fun ls hl => ?_)
  obtain ⟨q1, hq1, hd⟩ := bnd_some hd
  have Kq1 : ∀ (H : Heap) (locs : List Loc) (ls : Array Slot), va_P (dC, dI) vwCl [(h0, .inr (3, [.ref h1, .int v_blocks, .ref h2, .ref h3, .ref h4, .ref h5, .ref h6, .ref h7, .ref h8])), (h8, .inl (cI, 2464, .inl q1))] H → va_D A [(h0, .inr (3, [.ref h1, .int v_blocks, .ref h2, .ref h3, .ref h4, .ref h5, .ref h6, .ref h7, .ref h8])), (h8, .inl (cI, 2464, .inl q1))] → va_S A s.heap H locs → lv_has ls 4 [(0, .ref h0), (1, .int p1), (2, .int p2)] → W p l e rmX3_writeByte s m args below meth c H locs 0 0 Q (F0 m 27 ls []) := by
    intro H locs ls hP hD hS hl
    refine lv_aload_n hx hb dX3_writeByte_27 rfl (lv_at hl 0 rfl) ?_
    refine va_get (D := (dC, dI)) (ci := 3) (v := .ref h8) (C := RX3) (T := TX3) (N := 9) hx hb hts inX3_writeByte_X3 hown hK hP 0 rfl rfl 8 (by decide) (hts _ kX3_writeByte_1) (fun _ h9 => h9) rfl dX3_writeByte_28 ?_
    refine lv_iload_n hx hb dX3_writeByte_31 rfl (lv_at hl 1 rfl) ?_
    refine lv_bipush (v := 8) hx hb dX3_writeByte_32 (by decide) ?_
    refine lv_iadd hx hb dX3_writeByte_34 ?_
    refine lv_iload_n hx hb dX3_writeByte_35 rfl (lv_at hl 2 rfl) ?_
    obtain ⟨q2, hq2, hd⟩ := bnd_some hd
    have hPc : va_P (dC, dI) vwCl [] _ := hP.sub [] rfl
    have hDc := hD.sub (ws' := []) [] (by decide) rfl
    have hFc := va_free (wc := []) hD hS hA [] rfl
    refine va_calli (va_runS (As := [.int p2]) (rest := [.int (p1 + (8 : Int32)), .ref h8]) ⟨hx, hb, hml, hown, hts⟩ (c_J6_bitCount_0f7a4 l dC dI cI cC cZ cT cG H.size p2 q2 hq2) (va_cwS 1 hts gX3_writeByte_J6_bitCount_0f7a4 rfl rfl rfl hp_J6_bitCount_0f7a4 ⟨Nat.le_of_ble_eq_true rfl, Nat.le_of_ble_eq_true rfl⟩) ⟨preB_fb, fun U hU hW => preB_mk hU hW hPc hK hDc hN⟩ rfl rfl hl.1 rfl (lv_room (Nat.le_of_ble_eq_true rfl)) dX3_writeByte_36 ⟨Nat.zero_le _, Nat.zero_le _⟩) hS (fun q _ h => hFc q h) hFc (fun r_ u_ t H locs ht hvm hw hB hz1 hk1 hS => ?_)
    have hw : r_ = q2 := hw
    have hw := hw.symm
    subst hw
    obtain ⟨hP, hD⟩ := x_join (ws' := [(h0, .inr (3, [.ref h1, .int v_blocks, .ref h2, .ref h3, .ref h4, .ref h5, .ref h6, .ref h7, .ref h8])), (h8, .inl (cI, 2464, .inl q1))]) hP hD [] [0, 1] rfl rfl (by decide) (by decide) hk1 hFc ht hB [0, 1] (by decide) rfl
    clear hPc hDc hFc hk1 hB ht hz1 hvm
    refine lv_iconst (v := 1) hx hb dX3_writeByte_39 (by decide) ?_
    refine lv_iand hx hb dX3_writeByte_40 ?_
    obtain ⟨g3, hd⟩ := gd_some hd
    refine x_iast (k := (p1 + (8 : Int32)).toNatClampNeg) hx hb hK hP hD hS 1 0 rfl rfl (inb_in g3) rfl dX3_writeByte_41 (fun H locs hP hD hS => ?_)
    have hP : va_P (dC, dI) vwCl [(h0, .inr (3, [.ref h1, .int v_blocks, .ref h2, .ref h3, .ref h4, .ref h5, .ref h6, .ref h7, .ref h8])), (h8, .inl (cI, 2464, .inl (upd q1 (p1 + (8 : Int32)).toNatClampNeg (q2 &&& (1 : Int32)))))] H := hP
    have hD : va_D A [(h0, .inr (3, [.ref h1, .int v_blocks, .ref h2, .ref h3, .ref h4, .ref h5, .ref h6, .ref h7, .ref h8])), (h8, .inl (cI, 2464, .inl (upd q1 (p1 + (8 : Int32)).toNatClampNeg (q2 &&& (1 : Int32)))))] := hD
    cases hd
    exact hend hP hD hS dX3_writeByte_42
  clear hd
  have KL6 : ∀ (fu : Nat) (y3_2 : Int32) (v_written_2 : (Nat → Int32)) (hd : den_X3_writeByte_L2 p1 p2 fu y3_2 v_written_2 = some q1) (H : Heap) (locs : List Loc) (ls : Array Slot), va_P (dC, dI) vwCl [(h0, .inr (3, [.ref h1, .int v_blocks, .ref h2, .ref h3, .ref h4, .ref h5, .ref h6, .ref h7, .ref h8])), (h8, .inl (cI, 2464, .inl v_written_2))] H → va_D A [(h0, .inr (3, [.ref h1, .int v_blocks, .ref h2, .ref h3, .ref h4, .ref h5, .ref h6, .ref h7, .ref h8])), (h8, .inl (cI, 2464, .inl v_written_2))] → va_S A s.heap H locs → lv_has ls 4 [(0, .ref h0), (1, .int p1), (2, .int p2), (3, .int y3_2)] → W p l e rmX3_writeByte s m args below meth c H locs 0 0 Q (F0 m 2 ls []) := by
    intro fu
    induction fu with
    | zero => intro y3_2 v_written_2 hd; exact no_some hd
    | succ fu ih =>
      intro y3_2 v_written_2 hd H locs ls hP hD hS hl
      rw [den_X3_writeByte_L2] at hd
      refine lv_iload_n hx hb dX3_writeByte_2 rfl (lv_at hl 3 rfl) ?_
      refine lv_bipush (v := 8) hx hb dX3_writeByte_3 (by decide) ?_
      refine lv_icmp_ge (tgt := 27) hx hb dX3_writeByte_5 (by decide) (fun c4 => ?_) (fun c4 => ?_)
      · replace hd := ite_t c4 hd
        cases hd
        exact Kq1 _ _ _ hP hD hS (lv_sub hl [0, 1, 2] rfl)
      · replace hd := ite_f c4 hd
        refine lv_aload_n hx hb dX3_writeByte_8 rfl (lv_at hl 0 rfl) ?_
        refine va_get (D := (dC, dI)) (ci := 3) (v := .ref h8) (C := RX3) (T := TX3) (N := 9) hx hb hts inX3_writeByte_X3 hown hK hP 0 rfl rfl 8 (by decide) (hts _ kX3_writeByte_1) (fun _ h9 => h9) rfl dX3_writeByte_9 ?_
        refine lv_iload_n hx hb dX3_writeByte_12 rfl (lv_at hl 1 rfl) ?_
        refine lv_iload_n hx hb dX3_writeByte_13 rfl (lv_at hl 3 rfl) ?_
        refine lv_iadd hx hb dX3_writeByte_14 ?_
        refine lv_iload_n hx hb dX3_writeByte_15 rfl (lv_at hl 2 rfl) ?_
        refine lv_iload_n hx hb dX3_writeByte_16 rfl (lv_at hl 3 rfl) ?_
        refine lv_iushr (v := ((p2).toUInt32 >>> ((y3_2).toUInt32 &&& Int32.toUInt32 31)).toInt32) hx hb dX3_writeByte_17 rfl ?_
        refine lv_iconst (v := 1) hx hb dX3_writeByte_18 (by decide) ?_
        refine lv_iand hx hb dX3_writeByte_19 ?_
        obtain ⟨g5, hd⟩ := gd_some hd
        refine x_iast (k := (p1 + y3_2).toNatClampNeg) hx hb hK hP hD hS 1 0 rfl rfl (inb_in g5) rfl dX3_writeByte_20 (fun H locs hP hD hS => ?_)
        have hP : va_P (dC, dI) vwCl [(h0, .inr (3, [.ref h1, .int v_blocks, .ref h2, .ref h3, .ref h4, .ref h5, .ref h6, .ref h7, .ref h8])), (h8, .inl (cI, 2464, .inl (upd v_written_2 (p1 + y3_2).toNatClampNeg ((((p2).toUInt32 >>> ((y3_2).toUInt32 &&& Int32.toUInt32 31)).toInt32) &&& (1 : Int32)))))] H := hP
        have hD : va_D A [(h0, .inr (3, [.ref h1, .int v_blocks, .ref h2, .ref h3, .ref h4, .ref h5, .ref h6, .ref h7, .ref h8])), (h8, .inl (cI, 2464, .inl (upd v_written_2 (p1 + y3_2).toNatClampNeg ((((p2).toUInt32 >>> ((y3_2).toUInt32 &&& Int32.toUInt32 31)).toInt32) &&& (1 : Int32)))))] := hD
        refine lv_iinc (v := (y3_2 + (1 : Int32))) (lv' := [(3, .int (y3_2 + (1 : Int32))), (0, .ref h0), (1, .int p1), (2, .int p2)]) hx hb dX3_writeByte_21 hl (k := 3) rfl (by first | rfl | decide) (by decide) rfl (fun ls hl => ?_)
        refine lv_goto (tgt := 2) hx hb dX3_writeByte_24 (by decide) ?_
        exact ih (y3_2 + (1 : Int32)) (upd v_written_2 (p1 + y3_2).toNatClampNeg ((((p2).toUInt32 >>> ((y3_2).toUInt32 &&& Int32.toUInt32 31)).toInt32) &&& (1 : Int32))) hd _ _ _ hP hD hS (lv_sub hl [1, 2, 3, 0] rfl)
  exact KL6 FU (0 : Int32) v_written hq1 _ _ _ hP hD hS (lv_sub hl [1, 2, 3, 0] rfl)
def rmX3_writeTelling : Room := { frames := 2, cells := 0, slots := 0, locals := 43 }
theorem hp_X3_writeTelling : yX3_writeTelling.cls ≠ "java/lang/invoke/MethodHandle" ∧ yX3_writeTelling.cls ≠ "java/lang/invoke/VarHandle" ∧ (parseMethodDescriptor yX3_writeTelling.desc).map (fun d => d.parameters.length) = some 3 := by decide +kernel
theorem hv_X3_writeTelling : yX3_writeTelling.cls = RX3 ∧ yX3_writeTelling.cls ≠ "java/lang/invoke/MethodHandle" ∧ yX3_writeTelling.cls ≠ "java/lang/invoke/VarHandle" ∧ (parseMethodDescriptor yX3_writeTelling.desc).map (fun d => d.parameters.length) = some 3 := by decide +kernel
set_option maxHeartbeats 4000000 in
set_option maxRecDepth 100000 in
theorem c_X3_writeTelling (l : Launch) (dC : Nat → ClassId) (dI : Nat → Nat → Nat) (cI cC cZ cT cG : ClassId) (h0 h1 h2 h3 h4 h5 h6 h7 h8 : Nat) (sz : Nat) (v_blocks : Int32) (v_written : (Nat → Int32)) (p1 : Int32) (p2 : Int32) (p3 : Int64) (r : (Nat → Int32)) (hd : den_X3_writeTelling v_written p1 p2 p3 = some r) : Met l yX3_writeTelling wsX3_writeTelling rmX3_writeTelling (va_Pc [.ref h0, .int p1, .int p2, .long p3] (preB sz (dC, dI) [(h0, .inr (3, [.ref h1, .int v_blocks, .ref h2, .ref h3, .ref h4, .ref h5, .ref h6, .ref h7, .ref h8])), (h8, .inl (cI, 2464, .inl v_written))] [(cI, .int), (cC, .char), (cZ, .boolean), (cT, .object "CassetteTones$Tape"), (cG, .object "CassetteTones$Telling")])) (va_Qv (S := Unit) (fun _ => True) (fun _ t => posB (dC, dI) [(h0, .inr (3, [.ref h1, .int v_blocks, .ref h2, .ref h3, .ref h4, .ref h5, .ref h6, .ref h7, .ref h8])), (h8, .inl (cI, 2464, .inl r))] [(cI, .int), (cC, .char), (cZ, .boolean), (cT, .object "CassetteTones$Tape"), (cG, .object "CassetteTones$Telling")] (va_A [(h0, .inr (3, [.ref h1, .int v_blocks, .ref h2, .ref h3, .ref h4, .ref h5, .ref h6, .ref h7, .ref h8])), (h8, .inl (cI, 2464, .inl v_written))] sz) t) (va_A [(h0, .inr (3, [.ref h1, .int v_blocks, .ref h2, .ref h3, .ref h4, .ref h5, .ref h6, .ref h7, .ref h8])), (h8, .inl (cI, 2464, .inl v_written))] sz)) 0 0 (va_A [(h0, .inr (3, [.ref h1, .int v_blocks, .ref h2, .ref h3, .ref h4, .ref h5, .ref h6, .ref h7, .ref h8])), (h8, .inl (cI, 2464, .inl v_written))] sz) := by
  refine x_met_v (by decide) rfl (Nat.le_of_ble_eq_true rfl) ?_
  intro p e s m args below meth c A Q H locs ls hx hb hml hown hts hK hN hA hP hD hS hl hend
  have hown : s.vm.findClass RX3 = some m.cls := hown
  have hl : lv_has ls 8 [(0, .ref h0), (1, .int p1), (2, .int p2), (3, .long p3)] := hl
  unfold den_X3_writeTelling at hd
  refine lv_iconst (v := 0) hx hb dX3_writeTelling_0 (by decide) ?_
  refine lv_istore (lv' := [(5, .int (0 : Int32)), (0, .ref h0), (1, .int p1), (2, .int p2), (3, .long p3)]) hx hb dX3_writeTelling_1 hl (by decide) rfl (fun ls hl => ?_)
  refine lv_iconst (v := 0) hx hb dX3_writeTelling_3 (by decide) ?_
  refine lv_istore (lv' := [(6, .int (0 : Int32)), (5, .int (0 : Int32)), (0, .ref h0), (1, .int p1), (2, .int p2), (3, .long p3)]) hx hb dX3_writeTelling_4 hl (by decide) rfl (fun ls hl => ?_)
  obtain ⟨q1, hq1, hd⟩ := bnd_some hd
  have Kq1 : ∀ (H : Heap) (locs : List Loc) (ls : Array Slot), va_P (dC, dI) vwCl [(h0, .inr (3, [.ref h1, .int v_blocks, .ref h2, .ref h3, .ref h4, .ref h5, .ref h6, .ref h7, .ref h8])), (h8, .inl (cI, 2464, .inl q1.2))] H → va_D A [(h0, .inr (3, [.ref h1, .int v_blocks, .ref h2, .ref h3, .ref h4, .ref h5, .ref h6, .ref h7, .ref h8])), (h8, .inl (cI, 2464, .inl q1.2))] → va_S A s.heap H locs → lv_has ls 8 [(0, .ref h0), (1, .int p1), (2, .int p2), (5, .int q1.1)] → W p l e rmX3_writeTelling s m args below meth c H locs 0 0 Q (F0 m 52 ls []) := by
    intro H locs ls hP hD hS hl
    refine lv_aload_n hx hb dX3_writeTelling_52 rfl (lv_at hl 0 rfl) ?_
    refine lv_iload_n hx hb dX3_writeTelling_53 rfl (lv_at hl 1 rfl) ?_
    refine lv_iload_n hx hb dX3_writeTelling_54 rfl (lv_at hl 2 rfl) ?_
    refine lv_bipush (v := 9) hx hb dX3_writeTelling_55 (by decide) ?_
    refine lv_imul hx hb dX3_writeTelling_57 ?_
    refine lv_iadd hx hb dX3_writeTelling_58 ?_
    refine lv_iload hx hb dX3_writeTelling_59 (lv_at hl 3 rfl) ?_
    refine lv_sipush (v := 255) hx hb dX3_writeTelling_61 (by decide) ?_
    refine lv_iand hx hb dX3_writeTelling_64 ?_
    obtain ⟨q2, hq2, hd⟩ := bnd_some hd
    have hPc : va_P (dC, dI) vwCl [(h0, .inr (3, [.ref h1, .int v_blocks, .ref h2, .ref h3, .ref h4, .ref h5, .ref h6, .ref h7, .ref h8])), (h8, .inl (cI, 2464, .inl q1.2))] _ := hP.sub [0, 1] rfl
    have hDc := hD.sub (ws' := [(h0, .inr (3, [.ref h1, .int v_blocks, .ref h2, .ref h3, .ref h4, .ref h5, .ref h6, .ref h7, .ref h8])), (h8, .inl (cI, 2464, .inl q1.2))]) [0, 1] (by decide) rfl
    have hFc := va_free (wc := [(h0, .inr (3, [.ref h1, .int v_blocks, .ref h2, .ref h3, .ref h4, .ref h5, .ref h6, .ref h7, .ref h8])), (h8, .inl (cI, 2464, .inl q1.2))]) hD hS hA [0, 1] rfl
    refine va_callv (va_runV (As := [.int (p1 + (p2 * (9 : Int32))), .int (q1.1 &&& (255 : Int32))]) (rest := []) ⟨hx, hb, hml, hown, hts⟩ (c_X3_writeByte l dC dI cI cC cZ cT cG h0 h1 h2 h3 h4 h5 h6 h7 h8 H.size v_blocks q1.2 (p1 + (p2 * (9 : Int32))) (q1.1 &&& (255 : Int32)) q2 hq2) (cwV 2 hts gX3_writeTelling_X3_writeByte rfl rfl rfl hv_X3_writeByte ⟨Nat.le_of_ble_eq_true rfl, Nat.le_of_ble_eq_true rfl⟩) ⟨preB_fb, va_recv hK hPc (ci := 3) (q0 := 0) rfl rfl, fun U hU hW => preB_mk hU hW hPc hK hDc hN⟩ rfl rfl hl.1 rfl (lv_room (Nat.le_of_ble_eq_true rfl)) dX3_writeTelling_65 ⟨Nat.zero_le _, Nat.zero_le _⟩) hS (fun q _ h => hFc q h) hFc (fun u_ t H locs ht hvm hw hB hz1 hk1 hS => ?_)
    obtain ⟨hP, hD⟩ := x_join (ws' := [(h0, .inr (3, [.ref h1, .int v_blocks, .ref h2, .ref h3, .ref h4, .ref h5, .ref h6, .ref h7, .ref h8])), (h8, .inl (cI, 2464, .inl q2))]) hP hD [0, 1] [] rfl rfl (by decide) (by decide) hk1 hFc ht hB [0, 1] (by decide) rfl
    clear hPc hDc hFc hk1 hB ht hz1 hvm
    cases hd
    exact hend hP hD hS dX3_writeTelling_68
  clear hd
  have KL6 : ∀ (fu : Nat) (y5_6 : Int32) (y6_6 : Int32) (v_written_6 : (Nat → Int32)) (hd : den_X3_writeTelling_L6 p1 p2 p3 fu y5_6 y6_6 v_written_6 = some q1) (H : Heap) (locs : List Loc) (ls : Array Slot), va_P (dC, dI) vwCl [(h0, .inr (3, [.ref h1, .int v_blocks, .ref h2, .ref h3, .ref h4, .ref h5, .ref h6, .ref h7, .ref h8])), (h8, .inl (cI, 2464, .inl v_written_6))] H → va_D A [(h0, .inr (3, [.ref h1, .int v_blocks, .ref h2, .ref h3, .ref h4, .ref h5, .ref h6, .ref h7, .ref h8])), (h8, .inl (cI, 2464, .inl v_written_6))] → va_S A s.heap H locs → lv_has ls 8 [(0, .ref h0), (1, .int p1), (2, .int p2), (3, .long p3), (5, .int y5_6), (6, .int y6_6)] → W p l e rmX3_writeTelling s m args below meth c H locs 0 0 Q (F0 m 6 ls []) := by
    intro fu
    induction fu with
    | zero => intro y5_6 y6_6 v_written_6 hd; exact no_some hd
    | succ fu ih =>
      intro y5_6 y6_6 v_written_6 hd H locs ls hP hD hS hl
      rw [den_X3_writeTelling_L6] at hd
      refine lv_iload hx hb dX3_writeTelling_6 (lv_at hl 5 rfl) ?_
      refine lv_iload_n hx hb dX3_writeTelling_8 rfl (lv_at hl 2 rfl) ?_
      refine lv_icmp_ge (tgt := 52) hx hb dX3_writeTelling_9 (by decide) (fun c3 => ?_) (fun c3 => ?_)
      · replace hd := ite_t c3 hd
        cases hd
        exact Kq1 _ _ _ hP hD hS (lv_sub hl [0, 1, 2, 4] rfl)
      · replace hd := ite_f c3 hd
        refine lv_lload_n hx hb dX3_writeTelling_12 rfl (lv_at hl 3 rfl) ?_
        refine lv_iload hx hb dX3_writeTelling_13 (lv_at hl 5 rfl) ?_
        refine lv_bipush (v := 8) hx hb dX3_writeTelling_15 (by decide) ?_
        refine lv_imul hx hb dX3_writeTelling_17 ?_
        refine lv_lushr (v := ((p3).toUInt64 >>> (((y6_6 * (8 : Int32))).toInt64.toUInt64 &&& Int64.toUInt64 63)).toInt64) hx hb dX3_writeTelling_18 rfl ?_
        refine lv_l2i (v := ((((p3).toUInt64 >>> (((y6_6 * (8 : Int32))).toInt64.toUInt64 &&& Int64.toUInt64 63)).toInt64)).toInt32) hx hb dX3_writeTelling_19 rfl ?_
        refine lv_sipush (v := 255) hx hb dX3_writeTelling_20 (by decide) ?_
        refine lv_iand hx hb dX3_writeTelling_23 ?_
        refine lv_topi (fun x4 ex4 => ?_)
        replace hd := nm_some ex4 hd
        refine lv_istore (lv' := [(7, .int x4), (0, .ref h0), (1, .int p1), (2, .int p2), (3, .long p3), (5, .int y5_6), (6, .int y6_6)]) hx hb dX3_writeTelling_24 hl (by decide) rfl (fun ls hl => ?_)
        refine lv_iload hx hb dX3_writeTelling_26 (lv_at hl 5 rfl) ?_
        refine lv_iload hx hb dX3_writeTelling_28 (lv_at hl 0 rfl) ?_
        refine lv_iadd hx hb dX3_writeTelling_30 ?_
        refine lv_istore (lv' := [(5, .int (y5_6 + x4)), (7, .int x4), (0, .ref h0), (1, .int p1), (2, .int p2), (3, .long p3), (6, .int y6_6)]) hx hb dX3_writeTelling_31 hl (by decide) rfl (fun ls hl => ?_)
        refine lv_aload_n hx hb dX3_writeTelling_33 rfl (lv_at hl 2 rfl) ?_
        refine lv_iload_n hx hb dX3_writeTelling_34 rfl (lv_at hl 3 rfl) ?_
        refine lv_iload hx hb dX3_writeTelling_35 (lv_at hl 6 rfl) ?_
        refine lv_bipush (v := 9) hx hb dX3_writeTelling_37 (by decide) ?_
        refine lv_imul hx hb dX3_writeTelling_39 ?_
        refine lv_iadd hx hb dX3_writeTelling_40 ?_
        refine lv_iload hx hb dX3_writeTelling_41 (lv_at hl 1 rfl) ?_
        obtain ⟨q5, hq5, hd⟩ := bnd_some hd
        have hPc : va_P (dC, dI) vwCl [(h0, .inr (3, [.ref h1, .int v_blocks, .ref h2, .ref h3, .ref h4, .ref h5, .ref h6, .ref h7, .ref h8])), (h8, .inl (cI, 2464, .inl v_written_6))] _ := hP.sub [0, 1] rfl
        have hDc := hD.sub (ws' := [(h0, .inr (3, [.ref h1, .int v_blocks, .ref h2, .ref h3, .ref h4, .ref h5, .ref h6, .ref h7, .ref h8])), (h8, .inl (cI, 2464, .inl v_written_6))]) [0, 1] (by decide) rfl
        have hFc := va_free (wc := [(h0, .inr (3, [.ref h1, .int v_blocks, .ref h2, .ref h3, .ref h4, .ref h5, .ref h6, .ref h7, .ref h8])), (h8, .inl (cI, 2464, .inl v_written_6))]) hD hS hA [0, 1] rfl
        refine va_callv (va_runV (As := [.int (p1 + (y6_6 * (9 : Int32))), .int x4]) (rest := []) ⟨hx, hb, hml, hown, hts⟩ (c_X3_writeByte l dC dI cI cC cZ cT cG h0 h1 h2 h3 h4 h5 h6 h7 h8 H.size v_blocks v_written_6 (p1 + (y6_6 * (9 : Int32))) x4 q5 hq5) (cwV 2 hts gX3_writeTelling_X3_writeByte rfl rfl rfl hv_X3_writeByte ⟨Nat.le_of_ble_eq_true rfl, Nat.le_of_ble_eq_true rfl⟩) ⟨preB_fb, va_recv hK hPc (ci := 3) (q0 := 0) rfl rfl, fun U hU hW => preB_mk hU hW hPc hK hDc hN⟩ rfl rfl hl.1 rfl (lv_room (Nat.le_of_ble_eq_true rfl)) dX3_writeTelling_43 ⟨Nat.zero_le _, Nat.zero_le _⟩) hS (fun q _ h => hFc q h) hFc (fun u_ t H locs ht hvm hw hB hz1 hk1 hS => ?_)
        obtain ⟨hP, hD⟩ := x_join (ws' := [(h0, .inr (3, [.ref h1, .int v_blocks, .ref h2, .ref h3, .ref h4, .ref h5, .ref h6, .ref h7, .ref h8])), (h8, .inl (cI, 2464, .inl q5))]) hP hD [0, 1] [] rfl rfl (by decide) (by decide) hk1 hFc ht hB [0, 1] (by decide) rfl
        clear hPc hDc hFc hk1 hB ht hz1 hvm
        refine lv_iinc (v := (y6_6 + (1 : Int32))) (lv' := [(6, .int (y6_6 + (1 : Int32))), (5, .int (y5_6 + x4)), (7, .int x4), (0, .ref h0), (1, .int p1), (2, .int p2), (3, .long p3)]) hx hb dX3_writeTelling_46 hl (k := 6) rfl (by first | rfl | decide) (by decide) rfl (fun ls hl => ?_)
        refine lv_goto (tgt := 6) hx hb dX3_writeTelling_49 (by decide) ?_
        exact ih (y5_6 + x4) (y6_6 + (1 : Int32)) q5 hd _ _ _ hP hD hS (lv_sub hl [3, 4, 5, 6, 1, 0] rfl)
  exact KL6 FU (0 : Int32) (0 : Int32) v_written hq1 _ _ _ hP hD hS (lv_sub hl [2, 3, 4, 5, 1, 0] rfl)
def rmX3_appendBlock : Room := { frames := 3, cells := 0, slots := 0, locals := 70 }
theorem kX3_appendBlock_1 : (Cond.fieldLink RX3 36 "CassetteTones$Tape" "blocks" "I") ∈ wsX3_appendBlock := List.mem_of_getElem? (i := 1) (by decide +kernel)
theorem kX3_appendBlock_2 : (Cond.fieldLink RX3 15 "CassetteTones$Tape" "names" "[I") ∈ wsX3_appendBlock := List.mem_of_getElem? (i := 2) (by decide +kernel)
theorem kX3_appendBlock_3 : (Cond.fieldLink RX3 18 "CassetteTones$Tape" "unders" "[I") ∈ wsX3_appendBlock := List.mem_of_getElem? (i := 3) (by decide +kernel)
theorem kX3_appendBlock_4 : (Cond.fieldLink RX3 21 "CassetteTones$Tape" "manys" "[I") ∈ wsX3_appendBlock := List.mem_of_getElem? (i := 4) (by decide +kernel)
theorem kX3_appendBlock_5 : (Cond.fieldLink RX3 24 "CassetteTones$Tape" "firsts" "[I") ∈ wsX3_appendBlock := List.mem_of_getElem? (i := 5) (by decide +kernel)
theorem kX3_appendBlock_6 : (Cond.fieldLink RX3 27 "CassetteTones$Tape" "volumes" "[I") ∈ wsX3_appendBlock := List.mem_of_getElem? (i := 6) (by decide +kernel)
theorem kX3_appendBlock_7 : (Cond.fieldLink RX3 9 "CassetteTones$Tape" "settings" "[I") ∈ wsX3_appendBlock := List.mem_of_getElem? (i := 7) (by decide +kernel)
theorem kX3_appendBlock_8 : (Cond.fieldLink RX3 30 "CassetteTones$Tape" "bad" "[I") ∈ wsX3_appendBlock := List.mem_of_getElem? (i := 8) (by decide +kernel)
theorem inX3_appendBlock_X3 : ∀ w ∈ wsX30, w ∈ wsX3_appendBlock := by decide +kernel
theorem hp_X3_appendBlock : yX3_appendBlock.cls ≠ "java/lang/invoke/MethodHandle" ∧ yX3_appendBlock.cls ≠ "java/lang/invoke/VarHandle" ∧ (parseMethodDescriptor yX3_appendBlock.desc).map (fun d => d.parameters.length) = some 4 := by decide +kernel
theorem hv_X3_appendBlock : yX3_appendBlock.cls = RX3 ∧ yX3_appendBlock.cls ≠ "java/lang/invoke/MethodHandle" ∧ yX3_appendBlock.cls ≠ "java/lang/invoke/VarHandle" ∧ (parseMethodDescriptor yX3_appendBlock.desc).map (fun d => d.parameters.length) = some 4 := by decide +kernel
set_option maxHeartbeats 4000000 in
set_option maxRecDepth 100000 in
theorem c_X3_appendBlock (l : Launch) (dC : Nat → ClassId) (dI : Nat → Nat → Nat) (cI cC cZ cT cG : ClassId) (h0 h1 h2 h3 h4 h5 h6 h7 h8 : Nat) (sz : Nat) (v_settings : (Nat → Int32)) (v_blocks : Int32) (v_names : (Nat → Int32)) (v_unders : (Nat → Int32)) (v_manys : (Nat → Int32)) (v_firsts : (Nat → Int32)) (v_volumes : (Nat → Int32)) (v_bad : (Nat → Int32)) (v_written : (Nat → Int32)) (p1 : Int32) (p2 : Int32) (p3 : Int32) (p4 : Int64) (r : (Int32 × Int32 × (Nat → Int32) × (Nat → Int32) × (Nat → Int32) × (Nat → Int32) × (Nat → Int32) × (Nat → Int32) × (Nat → Int32))) (hd : den_X3_appendBlock v_settings v_blocks v_names v_unders v_manys v_firsts v_volumes v_bad v_written p1 p2 p3 p4 = some r) : Met l yX3_appendBlock wsX3_appendBlock rmX3_appendBlock (va_Pc [.ref h0, .int p1, .int p2, .int p3, .long p4] (preB sz (dC, dI) [(h0, .inr (3, [.ref h1, .int v_blocks, .ref h2, .ref h3, .ref h4, .ref h5, .ref h6, .ref h7, .ref h8])), (h1, .inl (cI, 3, .inl v_settings)), (h2, .inl (cI, 16, .inl v_names)), (h3, .inl (cI, 16, .inl v_unders)), (h4, .inl (cI, 16, .inl v_manys)), (h5, .inl (cI, 17, .inl v_firsts)), (h6, .inl (cI, 2464, .inl v_volumes)), (h7, .inl (cI, 2464, .inl v_bad)), (h8, .inl (cI, 2464, .inl v_written))] [(cI, .int), (cC, .char), (cZ, .boolean), (cT, .object "CassetteTones$Tape"), (cG, .object "CassetteTones$Telling")])) (va_Qi (S := Unit) (fun v _ => v = r.1) (fun _ t => posB (dC, dI) [(h0, .inr (3, [.ref h1, .int r.2.1, .ref h2, .ref h3, .ref h4, .ref h5, .ref h6, .ref h7, .ref h8])), (h1, .inl (cI, 3, .inl v_settings)), (h2, .inl (cI, 16, .inl r.2.2.1)), (h3, .inl (cI, 16, .inl r.2.2.2.1)), (h4, .inl (cI, 16, .inl r.2.2.2.2.1)), (h5, .inl (cI, 17, .inl r.2.2.2.2.2.1)), (h6, .inl (cI, 2464, .inl r.2.2.2.2.2.2.1)), (h7, .inl (cI, 2464, .inl r.2.2.2.2.2.2.2.1)), (h8, .inl (cI, 2464, .inl r.2.2.2.2.2.2.2.2))] [(cI, .int), (cC, .char), (cZ, .boolean), (cT, .object "CassetteTones$Tape"), (cG, .object "CassetteTones$Telling")] (va_A [(h0, .inr (3, [.ref h1, .int v_blocks, .ref h2, .ref h3, .ref h4, .ref h5, .ref h6, .ref h7, .ref h8])), (h1, .inl (cI, 3, .inl v_settings)), (h2, .inl (cI, 16, .inl v_names)), (h3, .inl (cI, 16, .inl v_unders)), (h4, .inl (cI, 16, .inl v_manys)), (h5, .inl (cI, 17, .inl v_firsts)), (h6, .inl (cI, 2464, .inl v_volumes)), (h7, .inl (cI, 2464, .inl v_bad)), (h8, .inl (cI, 2464, .inl v_written))] sz) t) (va_A [(h0, .inr (3, [.ref h1, .int v_blocks, .ref h2, .ref h3, .ref h4, .ref h5, .ref h6, .ref h7, .ref h8])), (h1, .inl (cI, 3, .inl v_settings)), (h2, .inl (cI, 16, .inl v_names)), (h3, .inl (cI, 16, .inl v_unders)), (h4, .inl (cI, 16, .inl v_manys)), (h5, .inl (cI, 17, .inl v_firsts)), (h6, .inl (cI, 2464, .inl v_volumes)), (h7, .inl (cI, 2464, .inl v_bad)), (h8, .inl (cI, 2464, .inl v_written))] sz)) 0 0 (va_A [(h0, .inr (3, [.ref h1, .int v_blocks, .ref h2, .ref h3, .ref h4, .ref h5, .ref h6, .ref h7, .ref h8])), (h1, .inl (cI, 3, .inl v_settings)), (h2, .inl (cI, 16, .inl v_names)), (h3, .inl (cI, 16, .inl v_unders)), (h4, .inl (cI, 16, .inl v_manys)), (h5, .inl (cI, 17, .inl v_firsts)), (h6, .inl (cI, 2464, .inl v_volumes)), (h7, .inl (cI, 2464, .inl v_bad)), (h8, .inl (cI, 2464, .inl v_written))] sz) := by
  refine x_met_i (by decide) rfl (Nat.le_of_ble_eq_true rfl) ?_
  intro p e s m args below meth c A Q H locs ls hx hb hml hown hts hK hN hA hP hD hS hl hend
  have hown : s.vm.findClass RX3 = some m.cls := hown
  have hl : lv_has ls 11 [(0, .ref h0), (1, .int p1), (2, .int p2), (3, .int p3), (4, .long p4)] := hl
  unfold den_X3_appendBlock at hd
  refine lv_aload_n hx hb dX3_appendBlock_0 rfl (lv_at hl 0 rfl) ?_
  refine va_get (D := (dC, dI)) (ci := 3) (v := .int v_blocks) (C := RX3) (T := TX3) (N := 9) hx hb hts inX3_appendBlock_X3 hown hK hP 0 rfl rfl 1 (by decide) (hts _ kX3_appendBlock_1) (fun _ h9 => h9) rfl dX3_appendBlock_1 ?_
  refine lv_istore (lv' := [(6, .int v_blocks), (0, .ref h0), (1, .int p1), (2, .int p2), (3, .int p3), (4, .long p4)]) hx hb dX3_appendBlock_4 hl (by decide) rfl (fun ls hl => ?_)
  refine lv_aload_n hx hb dX3_appendBlock_6 rfl (lv_at hl 1 rfl) ?_
  refine va_get (D := (dC, dI)) (ci := 3) (v := .ref h2) (C := RX3) (T := TX3) (N := 9) hx hb hts inX3_appendBlock_X3 hown hK hP 0 rfl rfl 2 (by decide) (hts _ kX3_appendBlock_2) (fun _ h9 => h9) rfl dX3_appendBlock_7 ?_
  refine lv_iload hx hb dX3_appendBlock_10 (lv_at hl 0 rfl) ?_
  refine lv_iload_n hx hb dX3_appendBlock_12 rfl (lv_at hl 2 rfl) ?_
  obtain ⟨g1, hd⟩ := gd_some hd
  refine x_iast (k := v_blocks.toNatClampNeg) hx hb hK hP hD hS 2 0 rfl rfl (inb_in g1) rfl dX3_appendBlock_13 (fun H locs hP hD hS => ?_)
  have hP : va_P (dC, dI) vwCl [(h0, .inr (3, [.ref h1, .int v_blocks, .ref h2, .ref h3, .ref h4, .ref h5, .ref h6, .ref h7, .ref h8])), (h1, .inl (cI, 3, .inl v_settings)), (h2, .inl (cI, 16, .inl (upd v_names v_blocks.toNatClampNeg p1))), (h3, .inl (cI, 16, .inl v_unders)), (h4, .inl (cI, 16, .inl v_manys)), (h5, .inl (cI, 17, .inl v_firsts)), (h6, .inl (cI, 2464, .inl v_volumes)), (h7, .inl (cI, 2464, .inl v_bad)), (h8, .inl (cI, 2464, .inl v_written))] H := hP
  have hD : va_D A [(h0, .inr (3, [.ref h1, .int v_blocks, .ref h2, .ref h3, .ref h4, .ref h5, .ref h6, .ref h7, .ref h8])), (h1, .inl (cI, 3, .inl v_settings)), (h2, .inl (cI, 16, .inl (upd v_names v_blocks.toNatClampNeg p1))), (h3, .inl (cI, 16, .inl v_unders)), (h4, .inl (cI, 16, .inl v_manys)), (h5, .inl (cI, 17, .inl v_firsts)), (h6, .inl (cI, 2464, .inl v_volumes)), (h7, .inl (cI, 2464, .inl v_bad)), (h8, .inl (cI, 2464, .inl v_written))] := hD
  refine lv_aload_n hx hb dX3_appendBlock_14 rfl (lv_at hl 1 rfl) ?_
  refine va_get (D := (dC, dI)) (ci := 3) (v := .ref h3) (C := RX3) (T := TX3) (N := 9) hx hb hts inX3_appendBlock_X3 hown hK hP 0 rfl rfl 3 (by decide) (hts _ kX3_appendBlock_3) (fun _ h9 => h9) rfl dX3_appendBlock_15 ?_
  refine lv_iload hx hb dX3_appendBlock_18 (lv_at hl 0 rfl) ?_
  refine lv_iload_n hx hb dX3_appendBlock_20 rfl (lv_at hl 3 rfl) ?_
  obtain ⟨g2, hd⟩ := gd_some hd
  refine x_iast (k := v_blocks.toNatClampNeg) hx hb hK hP hD hS 3 0 rfl rfl (inb_in g2) rfl dX3_appendBlock_21 (fun H locs hP hD hS => ?_)
  have hP : va_P (dC, dI) vwCl [(h0, .inr (3, [.ref h1, .int v_blocks, .ref h2, .ref h3, .ref h4, .ref h5, .ref h6, .ref h7, .ref h8])), (h1, .inl (cI, 3, .inl v_settings)), (h2, .inl (cI, 16, .inl (upd v_names v_blocks.toNatClampNeg p1))), (h3, .inl (cI, 16, .inl (upd v_unders v_blocks.toNatClampNeg p2))), (h4, .inl (cI, 16, .inl v_manys)), (h5, .inl (cI, 17, .inl v_firsts)), (h6, .inl (cI, 2464, .inl v_volumes)), (h7, .inl (cI, 2464, .inl v_bad)), (h8, .inl (cI, 2464, .inl v_written))] H := hP
  have hD : va_D A [(h0, .inr (3, [.ref h1, .int v_blocks, .ref h2, .ref h3, .ref h4, .ref h5, .ref h6, .ref h7, .ref h8])), (h1, .inl (cI, 3, .inl v_settings)), (h2, .inl (cI, 16, .inl (upd v_names v_blocks.toNatClampNeg p1))), (h3, .inl (cI, 16, .inl (upd v_unders v_blocks.toNatClampNeg p2))), (h4, .inl (cI, 16, .inl v_manys)), (h5, .inl (cI, 17, .inl v_firsts)), (h6, .inl (cI, 2464, .inl v_volumes)), (h7, .inl (cI, 2464, .inl v_bad)), (h8, .inl (cI, 2464, .inl v_written))] := hD
  refine lv_aload_n hx hb dX3_appendBlock_22 rfl (lv_at hl 1 rfl) ?_
  refine va_get (D := (dC, dI)) (ci := 3) (v := .ref h4) (C := RX3) (T := TX3) (N := 9) hx hb hts inX3_appendBlock_X3 hown hK hP 0 rfl rfl 4 (by decide) (hts _ kX3_appendBlock_4) (fun _ h9 => h9) rfl dX3_appendBlock_23 ?_
  refine lv_iload hx hb dX3_appendBlock_26 (lv_at hl 0 rfl) ?_
  refine lv_iload_n hx hb dX3_appendBlock_28 rfl (lv_at hl 4 rfl) ?_
  obtain ⟨g3, hd⟩ := gd_some hd
  refine x_iast (k := v_blocks.toNatClampNeg) hx hb hK hP hD hS 4 0 rfl rfl (inb_in g3) rfl dX3_appendBlock_29 (fun H locs hP hD hS => ?_)
  have hP : va_P (dC, dI) vwCl [(h0, .inr (3, [.ref h1, .int v_blocks, .ref h2, .ref h3, .ref h4, .ref h5, .ref h6, .ref h7, .ref h8])), (h1, .inl (cI, 3, .inl v_settings)), (h2, .inl (cI, 16, .inl (upd v_names v_blocks.toNatClampNeg p1))), (h3, .inl (cI, 16, .inl (upd v_unders v_blocks.toNatClampNeg p2))), (h4, .inl (cI, 16, .inl (upd v_manys v_blocks.toNatClampNeg p3))), (h5, .inl (cI, 17, .inl v_firsts)), (h6, .inl (cI, 2464, .inl v_volumes)), (h7, .inl (cI, 2464, .inl v_bad)), (h8, .inl (cI, 2464, .inl v_written))] H := hP
  have hD : va_D A [(h0, .inr (3, [.ref h1, .int v_blocks, .ref h2, .ref h3, .ref h4, .ref h5, .ref h6, .ref h7, .ref h8])), (h1, .inl (cI, 3, .inl v_settings)), (h2, .inl (cI, 16, .inl (upd v_names v_blocks.toNatClampNeg p1))), (h3, .inl (cI, 16, .inl (upd v_unders v_blocks.toNatClampNeg p2))), (h4, .inl (cI, 16, .inl (upd v_manys v_blocks.toNatClampNeg p3))), (h5, .inl (cI, 17, .inl v_firsts)), (h6, .inl (cI, 2464, .inl v_volumes)), (h7, .inl (cI, 2464, .inl v_bad)), (h8, .inl (cI, 2464, .inl v_written))] := hD
  refine lv_aload_n hx hb dX3_appendBlock_30 rfl (lv_at hl 1 rfl) ?_
  refine va_get (D := (dC, dI)) (ci := 3) (v := .ref h5) (C := RX3) (T := TX3) (N := 9) hx hb hts inX3_appendBlock_X3 hown hK hP 0 rfl rfl 5 (by decide) (hts _ kX3_appendBlock_5) (fun _ h9 => h9) rfl dX3_appendBlock_31 ?_
  refine lv_iload hx hb dX3_appendBlock_34 (lv_at hl 0 rfl) ?_
  obtain ⟨g4, hd⟩ := gd_some hd
  refine x_iald (k := v_blocks.toNatClampNeg) hx hb hK hP 5 0 rfl rfl (inb_in g4) rfl dX3_appendBlock_36 ?_
  refine lv_istore (lv' := [(7, .int (v_firsts v_blocks.toNatClampNeg)), (6, .int v_blocks), (0, .ref h0), (1, .int p1), (2, .int p2), (3, .int p3), (4, .long p4)]) hx hb dX3_appendBlock_37 hl (by decide) rfl (fun ls hl => ?_)
  refine lv_aload_n hx hb dX3_appendBlock_39 rfl (lv_at hl 2 rfl) ?_
  refine lv_iload hx hb dX3_appendBlock_40 (lv_at hl 1 rfl) ?_
  obtain ⟨q5, hq5, hd⟩ := bnd_some hd
  have hPc : va_P (dC, dI) vwCl [(h0, .inr (3, [.ref h1, .int v_blocks, .ref h2, .ref h3, .ref h4, .ref h5, .ref h6, .ref h7, .ref h8])), (h4, .inl (cI, 16, .inl (upd v_manys v_blocks.toNatClampNeg p3)))] _ := hP.sub [0, 4] rfl
  have hDc := hD.sub (ws' := [(h0, .inr (3, [.ref h1, .int v_blocks, .ref h2, .ref h3, .ref h4, .ref h5, .ref h6, .ref h7, .ref h8])), (h4, .inl (cI, 16, .inl (upd v_manys v_blocks.toNatClampNeg p3)))]) [0, 4] (by decide) rfl
  have hFc := va_free (wc := [(h0, .inr (3, [.ref h1, .int v_blocks, .ref h2, .ref h3, .ref h4, .ref h5, .ref h6, .ref h7, .ref h8])), (h4, .inl (cI, 16, .inl (upd v_manys v_blocks.toNatClampNeg p3)))]) hD hS hA [0, 4] rfl
  refine va_calli (va_runV (As := [.int v_blocks]) (rest := []) ⟨hx, hb, hml, hown, hts⟩ (c_X3_tellingCells l dC dI cI cC cZ cT cG h0 h1 h2 h3 h4 h5 h6 h7 h8 H.size v_blocks (upd v_manys v_blocks.toNatClampNeg p3) v_blocks q5 hq5) (cwV 1 hts gX3_appendBlock_X3_tellingCells rfl rfl rfl hv_X3_tellingCells ⟨Nat.le_of_ble_eq_true rfl, Nat.le_of_ble_eq_true rfl⟩) ⟨preB_fb, va_recv hK hPc (ci := 3) (q0 := 0) rfl rfl, fun U hU hW => preB_mk hU hW hPc hK hDc hN⟩ rfl rfl hl.1 rfl (lv_room (Nat.le_of_ble_eq_true rfl)) dX3_appendBlock_42 ⟨Nat.zero_le _, Nat.zero_le _⟩) hS (fun q _ h => hFc q h) hFc (fun r_ u_ t H locs ht hvm hw hB hz1 hk1 hS => ?_)
  have hw : r_ = q5 := hw
  have hw := hw.symm
  subst hw
  obtain ⟨hP, hD⟩ := x_join (ws' := [(h0, .inr (3, [.ref h1, .int v_blocks, .ref h2, .ref h3, .ref h4, .ref h5, .ref h6, .ref h7, .ref h8])), (h1, .inl (cI, 3, .inl v_settings)), (h2, .inl (cI, 16, .inl (upd v_names v_blocks.toNatClampNeg p1))), (h3, .inl (cI, 16, .inl (upd v_unders v_blocks.toNatClampNeg p2))), (h4, .inl (cI, 16, .inl (upd v_manys v_blocks.toNatClampNeg p3))), (h5, .inl (cI, 17, .inl v_firsts)), (h6, .inl (cI, 2464, .inl v_volumes)), (h7, .inl (cI, 2464, .inl v_bad)), (h8, .inl (cI, 2464, .inl v_written))]) hP hD [0, 4] [1, 2, 3, 5, 6, 7, 8] rfl rfl (by decide) (by decide) hk1 hFc ht hB [7, 0, 1, 2, 8, 3, 4, 5, 6] (by decide) rfl
  clear hPc hDc hFc hk1 hB ht hz1 hvm
  refine lv_istore (lv' := [(8, .int q5), (7, .int (v_firsts v_blocks.toNatClampNeg)), (6, .int v_blocks), (0, .ref h0), (1, .int p1), (2, .int p2), (3, .int p3), (4, .long p4)]) hx hb dX3_appendBlock_45 hl (by decide) rfl (fun ls hl => ?_)
  refine lv_iload hx hb dX3_appendBlock_47 (lv_at hl 1 rfl) ?_
  refine lv_iconst (v := 2) hx hb dX3_appendBlock_49 (by decide) ?_
  refine lv_iload hx hb dX3_appendBlock_50 (lv_at hl 0 rfl) ?_
  refine lv_imul hx hb dX3_appendBlock_52 ?_
  refine lv_iadd hx hb dX3_appendBlock_53 ?_
  refine lv_iconst (v := 2) hx hb dX3_appendBlock_54 (by decide) ?_
  refine lv_iadd hx hb dX3_appendBlock_55 ?_
  refine lv_topi (fun x6 ex6 => ?_)
  replace hd := nm_some ex6 hd
  refine lv_istore (lv' := [(9, .int x6), (8, .int q5), (7, .int (v_firsts v_blocks.toNatClampNeg)), (6, .int v_blocks), (0, .ref h0), (1, .int p1), (2, .int p2), (3, .int p3), (4, .long p4)]) hx hb dX3_appendBlock_56 hl (by decide) rfl (fun ls hl => ?_)
  refine lv_iload hx hb dX3_appendBlock_58 (lv_at hl 2 rfl) ?_
  refine lv_istore (lv' := [(10, .int (v_firsts v_blocks.toNatClampNeg)), (9, .int x6), (8, .int q5), (7, .int (v_firsts v_blocks.toNatClampNeg)), (6, .int v_blocks), (0, .ref h0), (1, .int p1), (2, .int p2), (3, .int p3), (4, .long p4)]) hx hb dX3_appendBlock_60 hl (by decide) rfl (fun ls hl => ?_)
  obtain ⟨q7, hq7, hd⟩ := bnd_some hd
  have Kq7 : ∀ (H : Heap) (locs : List Loc) (ls : Array Slot), va_P (dC, dI) vwCl [(h0, .inr (3, [.ref h1, .int v_blocks, .ref h2, .ref h3, .ref h4, .ref h5, .ref h6, .ref h7, .ref h8])), (h1, .inl (cI, 3, .inl v_settings)), (h2, .inl (cI, 16, .inl (upd v_names v_blocks.toNatClampNeg p1))), (h3, .inl (cI, 16, .inl (upd v_unders v_blocks.toNatClampNeg p2))), (h4, .inl (cI, 16, .inl (upd v_manys v_blocks.toNatClampNeg p3))), (h5, .inl (cI, 17, .inl v_firsts)), (h6, .inl (cI, 2464, .inl q7.1)), (h7, .inl (cI, 2464, .inl q7.2)), (h8, .inl (cI, 2464, .inl v_written))] H → va_D A [(h0, .inr (3, [.ref h1, .int v_blocks, .ref h2, .ref h3, .ref h4, .ref h5, .ref h6, .ref h7, .ref h8])), (h1, .inl (cI, 3, .inl v_settings)), (h2, .inl (cI, 16, .inl (upd v_names v_blocks.toNatClampNeg p1))), (h3, .inl (cI, 16, .inl (upd v_unders v_blocks.toNatClampNeg p2))), (h4, .inl (cI, 16, .inl (upd v_manys v_blocks.toNatClampNeg p3))), (h5, .inl (cI, 17, .inl v_firsts)), (h6, .inl (cI, 2464, .inl q7.1)), (h7, .inl (cI, 2464, .inl q7.2)), (h8, .inl (cI, 2464, .inl v_written))] → va_S A s.heap H locs → lv_has ls 11 [(0, .ref h0), (3, .int p3), (4, .long p4), (6, .int v_blocks), (7, .int (v_firsts v_blocks.toNatClampNeg)), (8, .int q5), (9, .int x6)] → W p l e rmX3_appendBlock s m args below meth c H locs 0 0 Q (F0 m 96 ls []) := by
    intro H locs ls hP hD hS hl
    refine lv_iconst (v := 0) hx hb dX3_appendBlock_96 (by decide) ?_
    refine lv_istore (lv' := [(10, .int (0 : Int32)), (0, .ref h0), (3, .int p3), (4, .long p4), (6, .int v_blocks), (7, .int (v_firsts v_blocks.toNatClampNeg)), (8, .int q5), (9, .int x6)]) hx hb dX3_appendBlock_97 hl (by decide) rfl (fun ls hl => ?_)
    obtain ⟨q8, hq8, hd⟩ := bnd_some hd
    have Kq8 : ∀ (H : Heap) (locs : List Loc) (ls : Array Slot), va_P (dC, dI) vwCl [(h0, .inr (3, [.ref h1, .int v_blocks, .ref h2, .ref h3, .ref h4, .ref h5, .ref h6, .ref h7, .ref h8])), (h1, .inl (cI, 3, .inl v_settings)), (h2, .inl (cI, 16, .inl (upd v_names v_blocks.toNatClampNeg p1))), (h3, .inl (cI, 16, .inl (upd v_unders v_blocks.toNatClampNeg p2))), (h4, .inl (cI, 16, .inl (upd v_manys v_blocks.toNatClampNeg p3))), (h5, .inl (cI, 17, .inl v_firsts)), (h6, .inl (cI, 2464, .inl q7.1)), (h7, .inl (cI, 2464, .inl q7.2)), (h8, .inl (cI, 2464, .inl q8))] H → va_D A [(h0, .inr (3, [.ref h1, .int v_blocks, .ref h2, .ref h3, .ref h4, .ref h5, .ref h6, .ref h7, .ref h8])), (h1, .inl (cI, 3, .inl v_settings)), (h2, .inl (cI, 16, .inl (upd v_names v_blocks.toNatClampNeg p1))), (h3, .inl (cI, 16, .inl (upd v_unders v_blocks.toNatClampNeg p2))), (h4, .inl (cI, 16, .inl (upd v_manys v_blocks.toNatClampNeg p3))), (h5, .inl (cI, 17, .inl v_firsts)), (h6, .inl (cI, 2464, .inl q7.1)), (h7, .inl (cI, 2464, .inl q7.2)), (h8, .inl (cI, 2464, .inl q8))] → va_S A s.heap H locs → lv_has ls 11 [(0, .ref h0), (6, .int v_blocks), (9, .int x6)] → W p l e rmX3_appendBlock s m args below meth c H locs 0 0 Q (F0 m 128 ls []) := by
      intro H locs ls hP hD hS hl
      refine lv_aload_n hx hb dX3_appendBlock_128 rfl (lv_at hl 0 rfl) ?_
      refine va_get (D := (dC, dI)) (ci := 3) (v := .ref h5) (C := RX3) (T := TX3) (N := 9) hx hb hts inX3_appendBlock_X3 hown hK hP 0 rfl rfl 5 (by decide) (hts _ kX3_appendBlock_5) (fun _ h9 => h9) rfl dX3_appendBlock_129 ?_
      refine lv_iload hx hb dX3_appendBlock_132 (lv_at hl 1 rfl) ?_
      refine lv_iconst (v := 1) hx hb dX3_appendBlock_134 (by decide) ?_
      refine lv_iadd hx hb dX3_appendBlock_135 ?_
      refine lv_iload hx hb dX3_appendBlock_136 (lv_at hl 2 rfl) ?_
      obtain ⟨g9, hd⟩ := gd_some hd
      refine x_iast (k := (v_blocks + (1 : Int32)).toNatClampNeg) hx hb hK hP hD hS 5 0 rfl rfl (inb_in g9) rfl dX3_appendBlock_138 (fun H locs hP hD hS => ?_)
      have hP : va_P (dC, dI) vwCl [(h0, .inr (3, [.ref h1, .int v_blocks, .ref h2, .ref h3, .ref h4, .ref h5, .ref h6, .ref h7, .ref h8])), (h1, .inl (cI, 3, .inl v_settings)), (h2, .inl (cI, 16, .inl (upd v_names v_blocks.toNatClampNeg p1))), (h3, .inl (cI, 16, .inl (upd v_unders v_blocks.toNatClampNeg p2))), (h4, .inl (cI, 16, .inl (upd v_manys v_blocks.toNatClampNeg p3))), (h5, .inl (cI, 17, .inl (upd v_firsts (v_blocks + (1 : Int32)).toNatClampNeg x6))), (h6, .inl (cI, 2464, .inl q7.1)), (h7, .inl (cI, 2464, .inl q7.2)), (h8, .inl (cI, 2464, .inl q8))] H := hP
      have hD : va_D A [(h0, .inr (3, [.ref h1, .int v_blocks, .ref h2, .ref h3, .ref h4, .ref h5, .ref h6, .ref h7, .ref h8])), (h1, .inl (cI, 3, .inl v_settings)), (h2, .inl (cI, 16, .inl (upd v_names v_blocks.toNatClampNeg p1))), (h3, .inl (cI, 16, .inl (upd v_unders v_blocks.toNatClampNeg p2))), (h4, .inl (cI, 16, .inl (upd v_manys v_blocks.toNatClampNeg p3))), (h5, .inl (cI, 17, .inl (upd v_firsts (v_blocks + (1 : Int32)).toNatClampNeg x6))), (h6, .inl (cI, 2464, .inl q7.1)), (h7, .inl (cI, 2464, .inl q7.2)), (h8, .inl (cI, 2464, .inl q8))] := hD
      refine lv_aload_n hx hb dX3_appendBlock_139 rfl (lv_at hl 0 rfl) ?_
      refine lv_dup hx hb dX3_appendBlock_140 rfl ?_
      refine va_get (D := (dC, dI)) (ci := 3) (v := .int v_blocks) (C := RX3) (T := TX3) (N := 9) hx hb hts inX3_appendBlock_X3 hown hK hP 0 rfl rfl 1 (by decide) (hts _ kX3_appendBlock_1) (fun _ h9 => h9) rfl dX3_appendBlock_141 ?_
      refine lv_iconst (v := 1) hx hb dX3_appendBlock_144 (by decide) ?_
      refine lv_iadd hx hb dX3_appendBlock_145 ?_
      refine va_put (D := (dC, dI)) (ci := 3) (v := .int (v_blocks + (1 : Int32))) (ty := .int) (C := RX3) (T := TX3) (N := 9) hx hb hts inX3_appendBlock_X3 tyX3 tyX3_ok nmX3 hown hK hP hD hS 0 rfl rfl 1 (by decide) (hts _ kX3_appendBlock_1) (fun _ h9 => h9) rfl (by decide +kernel) rfl rfl (Nat.le_of_ble_eq_true rfl) dX3_appendBlock_146 (fun H locs hP hD hS => ?_)
      have hP : va_P (dC, dI) vwCl [(h0, .inr (3, [.ref h1, .int (v_blocks + (1 : Int32)), .ref h2, .ref h3, .ref h4, .ref h5, .ref h6, .ref h7, .ref h8])), (h1, .inl (cI, 3, .inl v_settings)), (h2, .inl (cI, 16, .inl (upd v_names v_blocks.toNatClampNeg p1))), (h3, .inl (cI, 16, .inl (upd v_unders v_blocks.toNatClampNeg p2))), (h4, .inl (cI, 16, .inl (upd v_manys v_blocks.toNatClampNeg p3))), (h5, .inl (cI, 17, .inl (upd v_firsts (v_blocks + (1 : Int32)).toNatClampNeg x6))), (h6, .inl (cI, 2464, .inl q7.1)), (h7, .inl (cI, 2464, .inl q7.2)), (h8, .inl (cI, 2464, .inl q8))] H := hP
      have hD : va_D A [(h0, .inr (3, [.ref h1, .int (v_blocks + (1 : Int32)), .ref h2, .ref h3, .ref h4, .ref h5, .ref h6, .ref h7, .ref h8])), (h1, .inl (cI, 3, .inl v_settings)), (h2, .inl (cI, 16, .inl (upd v_names v_blocks.toNatClampNeg p1))), (h3, .inl (cI, 16, .inl (upd v_unders v_blocks.toNatClampNeg p2))), (h4, .inl (cI, 16, .inl (upd v_manys v_blocks.toNatClampNeg p3))), (h5, .inl (cI, 17, .inl (upd v_firsts (v_blocks + (1 : Int32)).toNatClampNeg x6))), (h6, .inl (cI, 2464, .inl q7.1)), (h7, .inl (cI, 2464, .inl q7.2)), (h8, .inl (cI, 2464, .inl q8))] := hD
      refine lv_iload hx hb dX3_appendBlock_149 (lv_at hl 1 rfl) ?_
      cases hd
      exact hend (by rfl) hP hD hS dX3_appendBlock_151
    clear hd
    have KL12 : ∀ (fu : Nat) (y10_99 : Int32) (v_written_99 : (Nat → Int32)) (hd : den_X3_appendBlock_L99 p3 p4 v_blocks v_firsts q5 fu y10_99 v_written_99 = some q8) (H : Heap) (locs : List Loc) (ls : Array Slot), va_P (dC, dI) vwCl [(h0, .inr (3, [.ref h1, .int v_blocks, .ref h2, .ref h3, .ref h4, .ref h5, .ref h6, .ref h7, .ref h8])), (h1, .inl (cI, 3, .inl v_settings)), (h2, .inl (cI, 16, .inl (upd v_names v_blocks.toNatClampNeg p1))), (h3, .inl (cI, 16, .inl (upd v_unders v_blocks.toNatClampNeg p2))), (h4, .inl (cI, 16, .inl (upd v_manys v_blocks.toNatClampNeg p3))), (h5, .inl (cI, 17, .inl v_firsts)), (h6, .inl (cI, 2464, .inl q7.1)), (h7, .inl (cI, 2464, .inl q7.2)), (h8, .inl (cI, 2464, .inl v_written_99))] H → va_D A [(h0, .inr (3, [.ref h1, .int v_blocks, .ref h2, .ref h3, .ref h4, .ref h5, .ref h6, .ref h7, .ref h8])), (h1, .inl (cI, 3, .inl v_settings)), (h2, .inl (cI, 16, .inl (upd v_names v_blocks.toNatClampNeg p1))), (h3, .inl (cI, 16, .inl (upd v_unders v_blocks.toNatClampNeg p2))), (h4, .inl (cI, 16, .inl (upd v_manys v_blocks.toNatClampNeg p3))), (h5, .inl (cI, 17, .inl v_firsts)), (h6, .inl (cI, 2464, .inl q7.1)), (h7, .inl (cI, 2464, .inl q7.2)), (h8, .inl (cI, 2464, .inl v_written_99))] → va_S A s.heap H locs → lv_has ls 11 [(0, .ref h0), (3, .int p3), (4, .long p4), (6, .int v_blocks), (7, .int (v_firsts v_blocks.toNatClampNeg)), (8, .int q5), (9, .int x6), (10, .int y10_99)] → W p l e rmX3_appendBlock s m args below meth c H locs 0 0 Q (F0 m 99 ls []) := by
      intro fu
      induction fu with
      | zero => intro y10_99 v_written_99 hd; exact no_some hd
      | succ fu ih =>
        intro y10_99 v_written_99 hd H locs ls hP hD hS hl
        rw [den_X3_appendBlock_L99] at hd
        refine lv_iload hx hb dX3_appendBlock_99 (lv_at hl 7 rfl) ?_
        refine lv_iconst (v := 2) hx hb dX3_appendBlock_101 (by decide) ?_
        refine lv_icmp_ge (tgt := 128) hx hb dX3_appendBlock_102 (by decide) (fun c10 => ?_) (fun c10 => ?_)
        · replace hd := ite_t c10 hd
          cases hd
          exact Kq8 _ _ _ hP hD hS (lv_sub hl [0, 3, 6] rfl)
        · replace hd := ite_f c10 hd
          refine lv_aload_n hx hb dX3_appendBlock_105 rfl (lv_at hl 0 rfl) ?_
          refine lv_iload hx hb dX3_appendBlock_106 (lv_at hl 4 rfl) ?_
          refine lv_iload hx hb dX3_appendBlock_108 (lv_at hl 7 rfl) ?_
          refine lv_iload hx hb dX3_appendBlock_110 (lv_at hl 5 rfl) ?_
          refine lv_imul hx hb dX3_appendBlock_112 ?_
          refine lv_iadd hx hb dX3_appendBlock_113 ?_
          refine lv_iconst (v := 4) hx hb dX3_appendBlock_114 (by decide) ?_
          refine lv_iadd hx hb dX3_appendBlock_115 ?_
          refine lv_iload_n hx hb dX3_appendBlock_116 rfl (lv_at hl 1 rfl) ?_
          refine lv_lload hx hb dX3_appendBlock_117 (lv_at hl 2 rfl) ?_
          obtain ⟨q11, hq11, hd⟩ := bnd_some hd
          have hPc : va_P (dC, dI) vwCl [(h0, .inr (3, [.ref h1, .int v_blocks, .ref h2, .ref h3, .ref h4, .ref h5, .ref h6, .ref h7, .ref h8])), (h8, .inl (cI, 2464, .inl v_written_99))] _ := hP.sub [0, 8] rfl
          have hDc := hD.sub (ws' := [(h0, .inr (3, [.ref h1, .int v_blocks, .ref h2, .ref h3, .ref h4, .ref h5, .ref h6, .ref h7, .ref h8])), (h8, .inl (cI, 2464, .inl v_written_99))]) [0, 8] (by decide) rfl
          have hFc := va_free (wc := [(h0, .inr (3, [.ref h1, .int v_blocks, .ref h2, .ref h3, .ref h4, .ref h5, .ref h6, .ref h7, .ref h8])), (h8, .inl (cI, 2464, .inl v_written_99))]) hD hS hA [0, 8] rfl
          refine va_callv (va_runV (As := [.int (((v_firsts v_blocks.toNatClampNeg) + (y10_99 * q5)) + (4 : Int32)), .int p3, .long p4]) (rest := []) ⟨hx, hb, hml, hown, hts⟩ (c_X3_writeTelling l dC dI cI cC cZ cT cG h0 h1 h2 h3 h4 h5 h6 h7 h8 H.size v_blocks v_written_99 (((v_firsts v_blocks.toNatClampNeg) + (y10_99 * q5)) + (4 : Int32)) p3 p4 q11 hq11) (cwV 3 hts gX3_appendBlock_X3_writeTelling rfl rfl rfl hv_X3_writeTelling ⟨Nat.le_of_ble_eq_true rfl, Nat.le_of_ble_eq_true rfl⟩) ⟨preB_fb, va_recv hK hPc (ci := 3) (q0 := 0) rfl rfl, fun U hU hW => preB_mk hU hW hPc hK hDc hN⟩ rfl rfl hl.1 rfl (lv_room (Nat.le_of_ble_eq_true rfl)) dX3_appendBlock_119 ⟨Nat.zero_le _, Nat.zero_le _⟩) hS (fun q _ h => hFc q h) hFc (fun u_ t H locs ht hvm hw hB hz1 hk1 hS => ?_)
          obtain ⟨hP, hD⟩ := x_join (ws' := [(h0, .inr (3, [.ref h1, .int v_blocks, .ref h2, .ref h3, .ref h4, .ref h5, .ref h6, .ref h7, .ref h8])), (h1, .inl (cI, 3, .inl v_settings)), (h2, .inl (cI, 16, .inl (upd v_names v_blocks.toNatClampNeg p1))), (h3, .inl (cI, 16, .inl (upd v_unders v_blocks.toNatClampNeg p2))), (h4, .inl (cI, 16, .inl (upd v_manys v_blocks.toNatClampNeg p3))), (h5, .inl (cI, 17, .inl v_firsts)), (h6, .inl (cI, 2464, .inl q7.1)), (h7, .inl (cI, 2464, .inl q7.2)), (h8, .inl (cI, 2464, .inl q11))]) hP hD [0, 8] [1, 2, 3, 4, 5, 6, 7] rfl rfl (by decide) (by decide) hk1 hFc ht hB [7, 0, 1, 2, 3, 4, 5, 6, 8] (by decide) rfl
          clear hPc hDc hFc hk1 hB ht hz1 hvm
          refine lv_iinc (v := (y10_99 + (1 : Int32))) (lv' := [(10, .int (y10_99 + (1 : Int32))), (0, .ref h0), (3, .int p3), (4, .long p4), (6, .int v_blocks), (7, .int (v_firsts v_blocks.toNatClampNeg)), (8, .int q5), (9, .int x6)]) hx hb dX3_appendBlock_122 hl (k := 7) rfl (by first | rfl | decide) (by decide) rfl (fun ls hl => ?_)
          refine lv_goto (tgt := 99) hx hb dX3_appendBlock_125 (by decide) ?_
          exact ih (y10_99 + (1 : Int32)) q11 hd _ _ _ hP hD hS (lv_sub hl [1, 2, 3, 4, 5, 6, 7, 0] rfl)
    exact KL12 FU (0 : Int32) v_written hq8 _ _ _ hP hD hS (lv_sub hl [1, 2, 3, 4, 5, 6, 7, 0] rfl)
  clear hd
  have KL16 : ∀ (fu : Nat) (y10_62 : Int32) (v_volumes_62 : (Nat → Int32)) (v_bad_62 : (Nat → Int32)) (hd : den_X3_appendBlock_L62 v_settings x6 fu y10_62 v_volumes_62 v_bad_62 = some q7) (H : Heap) (locs : List Loc) (ls : Array Slot), va_P (dC, dI) vwCl [(h0, .inr (3, [.ref h1, .int v_blocks, .ref h2, .ref h3, .ref h4, .ref h5, .ref h6, .ref h7, .ref h8])), (h1, .inl (cI, 3, .inl v_settings)), (h2, .inl (cI, 16, .inl (upd v_names v_blocks.toNatClampNeg p1))), (h3, .inl (cI, 16, .inl (upd v_unders v_blocks.toNatClampNeg p2))), (h4, .inl (cI, 16, .inl (upd v_manys v_blocks.toNatClampNeg p3))), (h5, .inl (cI, 17, .inl v_firsts)), (h6, .inl (cI, 2464, .inl v_volumes_62)), (h7, .inl (cI, 2464, .inl v_bad_62)), (h8, .inl (cI, 2464, .inl v_written))] H → va_D A [(h0, .inr (3, [.ref h1, .int v_blocks, .ref h2, .ref h3, .ref h4, .ref h5, .ref h6, .ref h7, .ref h8])), (h1, .inl (cI, 3, .inl v_settings)), (h2, .inl (cI, 16, .inl (upd v_names v_blocks.toNatClampNeg p1))), (h3, .inl (cI, 16, .inl (upd v_unders v_blocks.toNatClampNeg p2))), (h4, .inl (cI, 16, .inl (upd v_manys v_blocks.toNatClampNeg p3))), (h5, .inl (cI, 17, .inl v_firsts)), (h6, .inl (cI, 2464, .inl v_volumes_62)), (h7, .inl (cI, 2464, .inl v_bad_62)), (h8, .inl (cI, 2464, .inl v_written))] → va_S A s.heap H locs → lv_has ls 11 [(0, .ref h0), (3, .int p3), (4, .long p4), (6, .int v_blocks), (7, .int (v_firsts v_blocks.toNatClampNeg)), (8, .int q5), (9, .int x6), (10, .int y10_62)] → W p l e rmX3_appendBlock s m args below meth c H locs 0 0 Q (F0 m 62 ls []) := by
    intro fu
    induction fu with
    | zero => intro y10_62 v_volumes_62 v_bad_62 hd; exact no_some hd
    | succ fu ih =>
      intro y10_62 v_volumes_62 v_bad_62 hd H locs ls hP hD hS hl
      rw [den_X3_appendBlock_L62] at hd
      refine lv_iload hx hb dX3_appendBlock_62 (lv_at hl 7 rfl) ?_
      refine lv_iload hx hb dX3_appendBlock_64 (lv_at hl 6 rfl) ?_
      refine lv_icmp_ge (tgt := 96) hx hb dX3_appendBlock_66 (by decide) (fun c13 => ?_) (fun c13 => ?_)
      · replace hd := ite_t c13 hd
        cases hd
        exact Kq7 _ _ _ hP hD hS (lv_sub hl [0, 1, 2, 3, 4, 5, 6] rfl)
      · replace hd := ite_f c13 hd
        refine lv_aload_n hx hb dX3_appendBlock_69 rfl (lv_at hl 0 rfl) ?_
        refine va_get (D := (dC, dI)) (ci := 3) (v := .ref h6) (C := RX3) (T := TX3) (N := 9) hx hb hts inX3_appendBlock_X3 hown hK hP 0 rfl rfl 6 (by decide) (hts _ kX3_appendBlock_6) (fun _ h9 => h9) rfl dX3_appendBlock_70 ?_
        refine lv_iload hx hb dX3_appendBlock_73 (lv_at hl 7 rfl) ?_
        refine lv_aload_n hx hb dX3_appendBlock_75 rfl (lv_at hl 0 rfl) ?_
        refine va_get (D := (dC, dI)) (ci := 3) (v := .ref h1) (C := RX3) (T := TX3) (N := 9) hx hb hts inX3_appendBlock_X3 hown hK hP 0 rfl rfl 0 (by decide) (hts _ kX3_appendBlock_7) (fun _ h9 => h9) rfl dX3_appendBlock_76 ?_
        refine lv_iconst (v := 0) hx hb dX3_appendBlock_79 (by decide) ?_
        refine x_iald (k := 0) hx hb hK hP 1 0 rfl rfl (inb_in (by decide)) rfl dX3_appendBlock_80 ?_
        obtain ⟨g14, hd⟩ := gd_some hd
        refine x_iast (k := y10_62.toNatClampNeg) hx hb hK hP hD hS 6 0 rfl rfl (inb_in g14) rfl dX3_appendBlock_81 (fun H locs hP hD hS => ?_)
        have hP : va_P (dC, dI) vwCl [(h0, .inr (3, [.ref h1, .int v_blocks, .ref h2, .ref h3, .ref h4, .ref h5, .ref h6, .ref h7, .ref h8])), (h1, .inl (cI, 3, .inl v_settings)), (h2, .inl (cI, 16, .inl (upd v_names v_blocks.toNatClampNeg p1))), (h3, .inl (cI, 16, .inl (upd v_unders v_blocks.toNatClampNeg p2))), (h4, .inl (cI, 16, .inl (upd v_manys v_blocks.toNatClampNeg p3))), (h5, .inl (cI, 17, .inl v_firsts)), (h6, .inl (cI, 2464, .inl (upd v_volumes_62 y10_62.toNatClampNeg (v_settings 0)))), (h7, .inl (cI, 2464, .inl v_bad_62)), (h8, .inl (cI, 2464, .inl v_written))] H := hP
        have hD : va_D A [(h0, .inr (3, [.ref h1, .int v_blocks, .ref h2, .ref h3, .ref h4, .ref h5, .ref h6, .ref h7, .ref h8])), (h1, .inl (cI, 3, .inl v_settings)), (h2, .inl (cI, 16, .inl (upd v_names v_blocks.toNatClampNeg p1))), (h3, .inl (cI, 16, .inl (upd v_unders v_blocks.toNatClampNeg p2))), (h4, .inl (cI, 16, .inl (upd v_manys v_blocks.toNatClampNeg p3))), (h5, .inl (cI, 17, .inl v_firsts)), (h6, .inl (cI, 2464, .inl (upd v_volumes_62 y10_62.toNatClampNeg (v_settings 0)))), (h7, .inl (cI, 2464, .inl v_bad_62)), (h8, .inl (cI, 2464, .inl v_written))] := hD
        refine lv_aload_n hx hb dX3_appendBlock_82 rfl (lv_at hl 0 rfl) ?_
        refine va_get (D := (dC, dI)) (ci := 3) (v := .ref h7) (C := RX3) (T := TX3) (N := 9) hx hb hts inX3_appendBlock_X3 hown hK hP 0 rfl rfl 7 (by decide) (hts _ kX3_appendBlock_8) (fun _ h9 => h9) rfl dX3_appendBlock_83 ?_
        refine lv_iload hx hb dX3_appendBlock_86 (lv_at hl 7 rfl) ?_
        refine lv_iconst (v := 0) hx hb dX3_appendBlock_88 (by decide) ?_
        obtain ⟨g15, hd⟩ := gd_some hd
        refine x_iast (k := y10_62.toNatClampNeg) hx hb hK hP hD hS 7 0 rfl rfl (inb_in g15) rfl dX3_appendBlock_89 (fun H locs hP hD hS => ?_)
        have hP : va_P (dC, dI) vwCl [(h0, .inr (3, [.ref h1, .int v_blocks, .ref h2, .ref h3, .ref h4, .ref h5, .ref h6, .ref h7, .ref h8])), (h1, .inl (cI, 3, .inl v_settings)), (h2, .inl (cI, 16, .inl (upd v_names v_blocks.toNatClampNeg p1))), (h3, .inl (cI, 16, .inl (upd v_unders v_blocks.toNatClampNeg p2))), (h4, .inl (cI, 16, .inl (upd v_manys v_blocks.toNatClampNeg p3))), (h5, .inl (cI, 17, .inl v_firsts)), (h6, .inl (cI, 2464, .inl (upd v_volumes_62 y10_62.toNatClampNeg (v_settings 0)))), (h7, .inl (cI, 2464, .inl (upd v_bad_62 y10_62.toNatClampNeg (0 : Int32)))), (h8, .inl (cI, 2464, .inl v_written))] H := hP
        have hD : va_D A [(h0, .inr (3, [.ref h1, .int v_blocks, .ref h2, .ref h3, .ref h4, .ref h5, .ref h6, .ref h7, .ref h8])), (h1, .inl (cI, 3, .inl v_settings)), (h2, .inl (cI, 16, .inl (upd v_names v_blocks.toNatClampNeg p1))), (h3, .inl (cI, 16, .inl (upd v_unders v_blocks.toNatClampNeg p2))), (h4, .inl (cI, 16, .inl (upd v_manys v_blocks.toNatClampNeg p3))), (h5, .inl (cI, 17, .inl v_firsts)), (h6, .inl (cI, 2464, .inl (upd v_volumes_62 y10_62.toNatClampNeg (v_settings 0)))), (h7, .inl (cI, 2464, .inl (upd v_bad_62 y10_62.toNatClampNeg (0 : Int32)))), (h8, .inl (cI, 2464, .inl v_written))] := hD
        refine lv_iinc (v := (y10_62 + (1 : Int32))) (lv' := [(10, .int (y10_62 + (1 : Int32))), (0, .ref h0), (3, .int p3), (4, .long p4), (6, .int v_blocks), (7, .int (v_firsts v_blocks.toNatClampNeg)), (8, .int q5), (9, .int x6)]) hx hb dX3_appendBlock_90 hl (k := 7) rfl (by first | rfl | decide) (by decide) rfl (fun ls hl => ?_)
        refine lv_goto (tgt := 62) hx hb dX3_appendBlock_93 (by decide) ?_
        exact ih (y10_62 + (1 : Int32)) (upd v_volumes_62 y10_62.toNatClampNeg (v_settings 0)) (upd v_bad_62 y10_62.toNatClampNeg (0 : Int32)) hd _ _ _ hP hD hS (lv_sub hl [1, 2, 3, 4, 5, 6, 7, 0] rfl)
  exact KL16 FU (v_firsts v_blocks.toNatClampNeg) v_volumes v_bad hq7 _ _ _ hP hD hS (lv_sub hl [5, 8, 9, 4, 3, 2, 1, 0] rfl)
def rmX3_errorOfFading : Room := { frames := 2, cells := 0, slots := 0, locals := 41 }
theorem hp_X3_errorOfFading : yX3_errorOfFading.cls ≠ "java/lang/invoke/MethodHandle" ∧ yX3_errorOfFading.cls ≠ "java/lang/invoke/VarHandle" ∧ (parseMethodDescriptor yX3_errorOfFading.desc).map (fun d => d.parameters.length) = some 3 := by decide +kernel
theorem hv_X3_errorOfFading : yX3_errorOfFading.cls = RX3 ∧ yX3_errorOfFading.cls ≠ "java/lang/invoke/MethodHandle" ∧ yX3_errorOfFading.cls ≠ "java/lang/invoke/VarHandle" ∧ (parseMethodDescriptor yX3_errorOfFading.desc).map (fun d => d.parameters.length) = some 3 := by decide +kernel
set_option maxHeartbeats 4000000 in
set_option maxRecDepth 100000 in
theorem c_X3_errorOfFading (l : Launch) (dC : Nat → ClassId) (dI : Nat → Nat → Nat) (cI cC cZ cT cG : ClassId) (h0 h1 h2 h3 h4 h5 h6 h7 h8 : Nat) (sz : Nat) (v_blocks : Int32) (v_firsts : (Nat → Int32)) (p1 : Int32) (p2 : Int32) (p3 : Int32) (r : Int32) (hd : den_X3_errorOfFading v_blocks v_firsts p1 p2 p3 = some r) : Met l yX3_errorOfFading wsX3_errorOfFading rmX3_errorOfFading (va_Pc [.ref h0, .int p1, .int p2, .int p3] (preB sz (dC, dI) [(h0, .inr (3, [.ref h1, .int v_blocks, .ref h2, .ref h3, .ref h4, .ref h5, .ref h6, .ref h7, .ref h8])), (h5, .inl (cI, 17, .inl v_firsts))] [(cI, .int), (cC, .char), (cZ, .boolean), (cT, .object "CassetteTones$Tape"), (cG, .object "CassetteTones$Telling")])) (va_Qi (S := Unit) (fun v _ => v = r) (fun _ t => posB (dC, dI) [(h0, .inr (3, [.ref h1, .int v_blocks, .ref h2, .ref h3, .ref h4, .ref h5, .ref h6, .ref h7, .ref h8])), (h5, .inl (cI, 17, .inl v_firsts))] [(cI, .int), (cC, .char), (cZ, .boolean), (cT, .object "CassetteTones$Tape"), (cG, .object "CassetteTones$Telling")] (va_A [(h0, .inr (3, [.ref h1, .int v_blocks, .ref h2, .ref h3, .ref h4, .ref h5, .ref h6, .ref h7, .ref h8])), (h5, .inl (cI, 17, .inl v_firsts))] sz) t) (va_A [(h0, .inr (3, [.ref h1, .int v_blocks, .ref h2, .ref h3, .ref h4, .ref h5, .ref h6, .ref h7, .ref h8])), (h5, .inl (cI, 17, .inl v_firsts))] sz)) 0 0 (va_A [(h0, .inr (3, [.ref h1, .int v_blocks, .ref h2, .ref h3, .ref h4, .ref h5, .ref h6, .ref h7, .ref h8])), (h5, .inl (cI, 17, .inl v_firsts))] sz) := by
  refine x_met_i (by decide) rfl (Nat.le_of_ble_eq_true rfl) ?_
  intro p e s m args below meth c A Q H locs ls hx hb hml hown hts hK hN hA hP hD hS hl hend
  have hown : s.vm.findClass RX3 = some m.cls := hown
  have hl : lv_has ls 4 [(0, .ref h0), (1, .int p1), (2, .int p2), (3, .int p3)] := hl
  unfold den_X3_errorOfFading at hd
  refine lv_aload_n hx hb dX3_errorOfFading_0 rfl (lv_at hl 0 rfl) ?_
  refine lv_iload_n hx hb dX3_errorOfFading_1 rfl (lv_at hl 1 rfl) ?_
  obtain ⟨q1, hq1, hd⟩ := bnd_some hd
  have hPc : va_P (dC, dI) vwCl [(h0, .inr (3, [.ref h1, .int v_blocks, .ref h2, .ref h3, .ref h4, .ref h5, .ref h6, .ref h7, .ref h8])), (h5, .inl (cI, 17, .inl v_firsts))] _ := hP.sub [0, 1] rfl
  have hDc := hD.sub (ws' := [(h0, .inr (3, [.ref h1, .int v_blocks, .ref h2, .ref h3, .ref h4, .ref h5, .ref h6, .ref h7, .ref h8])), (h5, .inl (cI, 17, .inl v_firsts))]) [0, 1] (by decide) rfl
  have hFc := va_free (wc := [(h0, .inr (3, [.ref h1, .int v_blocks, .ref h2, .ref h3, .ref h4, .ref h5, .ref h6, .ref h7, .ref h8])), (h5, .inl (cI, 17, .inl v_firsts))]) hD hS hA [0, 1] rfl
  refine va_calli (va_runV (As := [.int p1]) (rest := []) ⟨hx, hb, hml, hown, hts⟩ (c_X3_hasCell l dC dI cI cC cZ cT cG h0 h1 h2 h3 h4 h5 h6 h7 h8 H.size v_blocks v_firsts p1 q1 hq1) (cwV 1 hts gX3_errorOfFading_X3_hasCell rfl rfl rfl hv_X3_hasCell ⟨Nat.le_of_ble_eq_true rfl, Nat.le_of_ble_eq_true rfl⟩) ⟨preB_fb, va_recv hK hPc (ci := 3) (q0 := 0) rfl rfl, fun U hU hW => preB_mk hU hW hPc hK hDc hN⟩ rfl rfl hl.1 rfl (lv_room (Nat.le_of_ble_eq_true rfl)) dX3_errorOfFading_2 ⟨Nat.zero_le _, Nat.zero_le _⟩) hS (fun q _ h => hFc q h) hFc (fun r_ u_ t H locs ht hvm hw hB hz1 hk1 hS => ?_)
  have hw : r_ = q1 := hw
  have hw := hw.symm
  subst hw
  obtain ⟨hP, hD⟩ := x_join (ws' := [(h0, .inr (3, [.ref h1, .int v_blocks, .ref h2, .ref h3, .ref h4, .ref h5, .ref h6, .ref h7, .ref h8])), (h5, .inl (cI, 17, .inl v_firsts))]) hP hD [0, 1] [] rfl rfl (by decide) (by decide) hk1 hFc ht hB [0, 1] (by decide) rfl
  clear hPc hDc hFc hk1 hB ht hz1 hvm
  refine lv_if_eq (tgt := 16) hx hb dX3_errorOfFading_5 (by decide) (fun c2 => ?_) (fun c2 => ?_)
  · replace hd := ite_t c2 hd
    refine lv_iconst (v := -1) hx hb dX3_errorOfFading_16 (by decide) ?_
    cases hd
    exact hend (by rfl) hP hD hS dX3_errorOfFading_17
  · replace hd := ite_f c2 hd
    refine lv_aload_n hx hb dX3_errorOfFading_8 rfl (lv_at hl 0 rfl) ?_
    refine lv_iload_n hx hb dX3_errorOfFading_9 rfl (lv_at hl 2 rfl) ?_
    obtain ⟨q3, hq3, hd⟩ := bnd_some hd
    have hPc : va_P (dC, dI) vwCl [(h0, .inr (3, [.ref h1, .int v_blocks, .ref h2, .ref h3, .ref h4, .ref h5, .ref h6, .ref h7, .ref h8])), (h5, .inl (cI, 17, .inl v_firsts))] _ := hP.sub [0, 1] rfl
    have hDc := hD.sub (ws' := [(h0, .inr (3, [.ref h1, .int v_blocks, .ref h2, .ref h3, .ref h4, .ref h5, .ref h6, .ref h7, .ref h8])), (h5, .inl (cI, 17, .inl v_firsts))]) [0, 1] (by decide) rfl
    have hFc := va_free (wc := [(h0, .inr (3, [.ref h1, .int v_blocks, .ref h2, .ref h3, .ref h4, .ref h5, .ref h6, .ref h7, .ref h8])), (h5, .inl (cI, 17, .inl v_firsts))]) hD hS hA [0, 1] rfl
    refine va_calli (va_runV (As := [.int p2]) (rest := []) ⟨hx, hb, hml, hown, hts⟩ (c_X3_hasCell l dC dI cI cC cZ cT cG h0 h1 h2 h3 h4 h5 h6 h7 h8 H.size v_blocks v_firsts p2 q3 hq3) (cwV 1 hts gX3_errorOfFading_X3_hasCell rfl rfl rfl hv_X3_hasCell ⟨Nat.le_of_ble_eq_true rfl, Nat.le_of_ble_eq_true rfl⟩) ⟨preB_fb, va_recv hK hPc (ci := 3) (q0 := 0) rfl rfl, fun U hU hW => preB_mk hU hW hPc hK hDc hN⟩ rfl rfl hl.1 rfl (lv_room (Nat.le_of_ble_eq_true rfl)) dX3_errorOfFading_10 ⟨Nat.zero_le _, Nat.zero_le _⟩) hS (fun q _ h => hFc q h) hFc (fun r_ u_ t H locs ht hvm hw hB hz1 hk1 hS => ?_)
    have hw : r_ = q3 := hw
    have hw := hw.symm
    subst hw
    obtain ⟨hP, hD⟩ := x_join (ws' := [(h0, .inr (3, [.ref h1, .int v_blocks, .ref h2, .ref h3, .ref h4, .ref h5, .ref h6, .ref h7, .ref h8])), (h5, .inl (cI, 17, .inl v_firsts))]) hP hD [0, 1] [] rfl rfl (by decide) (by decide) hk1 hFc ht hB [0, 1] (by decide) rfl
    clear hPc hDc hFc hk1 hB ht hz1 hvm
    refine lv_if_ne (tgt := 18) hx hb dX3_errorOfFading_13 (by decide) (fun c4 => ?_) (fun c4 => ?_)
    · replace hd := ite_f c4 hd
      refine lv_iload_n hx hb dX3_errorOfFading_18 rfl (lv_at hl 2 rfl) ?_
      refine lv_iload_n hx hb dX3_errorOfFading_19 rfl (lv_at hl 1 rfl) ?_
      refine lv_icmp_lt (tgt := 33) hx hb dX3_errorOfFading_20 (by decide) (fun c5 => ?_) (fun c5 => ?_)
      · replace hd := ite_t c5 hd
        refine lv_bipush (v := -2) hx hb dX3_errorOfFading_33 (by decide) ?_
        refine lv_goto (tgt := 39) hx hb dX3_errorOfFading_35 (by decide) ?_
        cases hd
        exact hend (by rfl) hP hD hS dX3_errorOfFading_39
      · replace hd := ite_f c5 hd
        refine lv_iload_n hx hb dX3_errorOfFading_23 rfl (lv_at hl 3 rfl) ?_
        refine lv_if_lt (tgt := 33) hx hb dX3_errorOfFading_24 (by decide) (fun c6 => ?_) (fun c6 => ?_)
        · replace hd := ite_t c6 hd
          refine lv_bipush (v := -2) hx hb dX3_errorOfFading_33 (by decide) ?_
          refine lv_goto (tgt := 39) hx hb dX3_errorOfFading_35 (by decide) ?_
          cases hd
          exact hend (by rfl) hP hD hS dX3_errorOfFading_39
        · replace hd := ite_f c6 hd
          refine lv_iload_n hx hb dX3_errorOfFading_27 rfl (lv_at hl 3 rfl) ?_
          refine lv_bipush (v := 99) hx hb dX3_errorOfFading_28 (by decide) ?_
          refine lv_icmp_le (tgt := 38) hx hb dX3_errorOfFading_30 (by decide) (fun c7 => ?_) (fun c7 => ?_)
          · replace hd := ite_t c7 hd
            refine lv_iconst (v := 0) hx hb dX3_errorOfFading_38 (by decide) ?_
            cases hd
            exact hend (by rfl) hP hD hS dX3_errorOfFading_39
          · replace hd := ite_f c7 hd
            refine lv_bipush (v := -2) hx hb dX3_errorOfFading_33 (by decide) ?_
            refine lv_goto (tgt := 39) hx hb dX3_errorOfFading_35 (by decide) ?_
            cases hd
            exact hend (by rfl) hP hD hS dX3_errorOfFading_39
    · replace hd := ite_t c4 hd
      refine lv_iconst (v := -1) hx hb dX3_errorOfFading_16 (by decide) ?_
      cases hd
      exact hend (by rfl) hP hD hS dX3_errorOfFading_17
def rmX3_fadeCells : Room := { frames := 0, cells := 0, slots := 0, locals := 0 }
theorem kX3_fadeCells_1 : (Cond.fieldLink RX3 27 "CassetteTones$Tape" "volumes" "[I") ∈ wsX3_fadeCells := List.mem_of_getElem? (i := 1) (by decide +kernel)
theorem inX3_fadeCells_X3 : ∀ w ∈ wsX30, w ∈ wsX3_fadeCells := by decide +kernel
theorem hp_X3_fadeCells : yX3_fadeCells.cls ≠ "java/lang/invoke/MethodHandle" ∧ yX3_fadeCells.cls ≠ "java/lang/invoke/VarHandle" ∧ (parseMethodDescriptor yX3_fadeCells.desc).map (fun d => d.parameters.length) = some 3 := by decide +kernel
theorem hv_X3_fadeCells : yX3_fadeCells.cls = RX3 ∧ yX3_fadeCells.cls ≠ "java/lang/invoke/MethodHandle" ∧ yX3_fadeCells.cls ≠ "java/lang/invoke/VarHandle" ∧ (parseMethodDescriptor yX3_fadeCells.desc).map (fun d => d.parameters.length) = some 3 := by decide +kernel
set_option maxHeartbeats 4000000 in
set_option maxRecDepth 100000 in
theorem c_X3_fadeCells (l : Launch) (dC : Nat → ClassId) (dI : Nat → Nat → Nat) (cI cC cZ cT cG : ClassId) (h0 h1 h2 h3 h4 h5 h6 h7 h8 : Nat) (sz : Nat) (v_blocks : Int32) (v_volumes : (Nat → Int32)) (p1 : Int32) (p2 : Int32) (p3 : Int32) (r : (Int32 × (Nat → Int32))) (hd : den_X3_fadeCells v_volumes p1 p2 p3 = some r) : Met l yX3_fadeCells wsX3_fadeCells rmX3_fadeCells (va_Pc [.ref h0, .int p1, .int p2, .int p3] (preB sz (dC, dI) [(h0, .inr (3, [.ref h1, .int v_blocks, .ref h2, .ref h3, .ref h4, .ref h5, .ref h6, .ref h7, .ref h8])), (h6, .inl (cI, 2464, .inl v_volumes))] [(cI, .int), (cC, .char), (cZ, .boolean), (cT, .object "CassetteTones$Tape"), (cG, .object "CassetteTones$Telling")])) (va_Qi (S := Unit) (fun v _ => v = r.1) (fun _ t => posB (dC, dI) [(h0, .inr (3, [.ref h1, .int v_blocks, .ref h2, .ref h3, .ref h4, .ref h5, .ref h6, .ref h7, .ref h8])), (h6, .inl (cI, 2464, .inl r.2))] [(cI, .int), (cC, .char), (cZ, .boolean), (cT, .object "CassetteTones$Tape"), (cG, .object "CassetteTones$Telling")] (va_A [(h0, .inr (3, [.ref h1, .int v_blocks, .ref h2, .ref h3, .ref h4, .ref h5, .ref h6, .ref h7, .ref h8])), (h6, .inl (cI, 2464, .inl v_volumes))] sz) t) (va_A [(h0, .inr (3, [.ref h1, .int v_blocks, .ref h2, .ref h3, .ref h4, .ref h5, .ref h6, .ref h7, .ref h8])), (h6, .inl (cI, 2464, .inl v_volumes))] sz)) 0 0 (va_A [(h0, .inr (3, [.ref h1, .int v_blocks, .ref h2, .ref h3, .ref h4, .ref h5, .ref h6, .ref h7, .ref h8])), (h6, .inl (cI, 2464, .inl v_volumes))] sz) := by
  refine x_met_i (by decide) rfl (Nat.le_of_ble_eq_true rfl) ?_
  intro p e s m args below meth c A Q H locs ls hx hb hml hown hts hK hN hA hP hD hS hl hend
  have hown : s.vm.findClass RX3 = some m.cls := hown
  have hl : lv_has ls 6 [(0, .ref h0), (1, .int p1), (2, .int p2), (3, .int p3)] := hl
  unfold den_X3_fadeCells at hd
  refine lv_iconst (v := 0) hx hb dX3_fadeCells_0 (by decide) ?_
  refine lv_istore (lv' := [(4, .int (0 : Int32)), (0, .ref h0), (1, .int p1), (2, .int p2), (3, .int p3)]) hx hb dX3_fadeCells_1 hl (by decide) rfl (fun ls hl => ?_)
  refine lv_iload_n hx hb dX3_fadeCells_3 rfl (lv_at hl 2 rfl) ?_
  refine lv_istore (lv' := [(5, .int p1), (4, .int (0 : Int32)), (0, .ref h0), (1, .int p1), (2, .int p2), (3, .int p3)]) hx hb dX3_fadeCells_4 hl (by decide) rfl (fun ls hl => ?_)
  obtain ⟨q1, hq1, hd⟩ := bnd_some hd
  have Kq1 : ∀ (H : Heap) (locs : List Loc) (ls : Array Slot), va_P (dC, dI) vwCl [(h0, .inr (3, [.ref h1, .int v_blocks, .ref h2, .ref h3, .ref h4, .ref h5, .ref h6, .ref h7, .ref h8])), (h6, .inl (cI, 2464, .inl q1.2))] H → va_D A [(h0, .inr (3, [.ref h1, .int v_blocks, .ref h2, .ref h3, .ref h4, .ref h5, .ref h6, .ref h7, .ref h8])), (h6, .inl (cI, 2464, .inl q1.2))] → va_S A s.heap H locs → lv_has ls 6 [(4, .int q1.1)] → W p l e rmX3_fadeCells s m args below meth c H locs 0 0 Q (F0 m 40 ls []) := by
    intro H locs ls hP hD hS hl
    refine lv_iload hx hb dX3_fadeCells_40 (lv_at hl 0 rfl) ?_
    cases hd
    exact hend (by rfl) hP hD hS dX3_fadeCells_42
  clear hd
  have KL6 : ∀ (fu : Nat) (y4_6 : Int32) (y5_6 : Int32) (v_volumes_6 : (Nat → Int32)) (hd : den_X3_fadeCells_L6 p2 p3 fu y4_6 y5_6 v_volumes_6 = some q1) (H : Heap) (locs : List Loc) (ls : Array Slot), va_P (dC, dI) vwCl [(h0, .inr (3, [.ref h1, .int v_blocks, .ref h2, .ref h3, .ref h4, .ref h5, .ref h6, .ref h7, .ref h8])), (h6, .inl (cI, 2464, .inl v_volumes_6))] H → va_D A [(h0, .inr (3, [.ref h1, .int v_blocks, .ref h2, .ref h3, .ref h4, .ref h5, .ref h6, .ref h7, .ref h8])), (h6, .inl (cI, 2464, .inl v_volumes_6))] → va_S A s.heap H locs → lv_has ls 6 [(0, .ref h0), (2, .int p2), (3, .int p3), (4, .int y4_6), (5, .int y5_6)] → W p l e rmX3_fadeCells s m args below meth c H locs 0 0 Q (F0 m 6 ls []) := by
    intro fu
    induction fu with
    | zero => intro y4_6 y5_6 v_volumes_6 hd; exact no_some hd
    | succ fu ih =>
      intro y4_6 y5_6 v_volumes_6 hd H locs ls hP hD hS hl
      rw [den_X3_fadeCells_L6] at hd
      refine lv_iload hx hb dX3_fadeCells_6 (lv_at hl 4 rfl) ?_
      refine lv_iload_n hx hb dX3_fadeCells_8 rfl (lv_at hl 1 rfl) ?_
      refine lv_icmp_gt (tgt := 40) hx hb dX3_fadeCells_9 (by decide) (fun c2 => ?_) (fun c2 => ?_)
      · replace hd := ite_t c2 hd
        cases hd
        exact Kq1 _ _ _ hP hD hS (lv_sub hl [3] rfl)
      · replace hd := ite_f c2 hd
        refine lv_aload_n hx hb dX3_fadeCells_12 rfl (lv_at hl 0 rfl) ?_
        refine va_get (D := (dC, dI)) (ci := 3) (v := .ref h6) (C := RX3) (T := TX3) (N := 9) hx hb hts inX3_fadeCells_X3 hown hK hP 0 rfl rfl 6 (by decide) (hts _ kX3_fadeCells_1) (fun _ h9 => h9) rfl dX3_fadeCells_13 ?_
        refine lv_iload hx hb dX3_fadeCells_16 (lv_at hl 4 rfl) ?_
        obtain ⟨g3, hd⟩ := gd_some hd
        refine x_iald (k := y5_6.toNatClampNeg) hx hb hK hP 1 0 rfl rfl (inb_in g3) rfl dX3_fadeCells_18 ?_
        refine lv_iload_n hx hb dX3_fadeCells_19 rfl (lv_at hl 2 rfl) ?_
        refine lv_icmp_le (tgt := 34) hx hb dX3_fadeCells_20 (by decide) (fun c4 => ?_) (fun c4 => ?_)
        · replace hd := ite_t c4 hd
          refine lv_iinc (v := (y5_6 + (1 : Int32))) (lv' := [(5, .int (y5_6 + (1 : Int32))), (0, .ref h0), (2, .int p2), (3, .int p3), (4, .int y4_6)]) hx hb dX3_fadeCells_34 hl (k := 4) rfl (by first | rfl | decide) (by decide) rfl (fun ls hl => ?_)
          refine lv_goto (tgt := 6) hx hb dX3_fadeCells_37 (by decide) ?_
          exact ih y4_6 (y5_6 + (1 : Int32)) v_volumes_6 hd _ _ _ hP hD hS (lv_sub hl [1, 2, 3, 4, 0] rfl)
        · replace hd := ite_f c4 hd
          refine lv_aload_n hx hb dX3_fadeCells_23 rfl (lv_at hl 0 rfl) ?_
          refine va_get (D := (dC, dI)) (ci := 3) (v := .ref h6) (C := RX3) (T := TX3) (N := 9) hx hb hts inX3_fadeCells_X3 hown hK hP 0 rfl rfl 6 (by decide) (hts _ kX3_fadeCells_1) (fun _ h9 => h9) rfl dX3_fadeCells_24 ?_
          refine lv_iload hx hb dX3_fadeCells_27 (lv_at hl 4 rfl) ?_
          refine lv_iload_n hx hb dX3_fadeCells_29 rfl (lv_at hl 2 rfl) ?_
          obtain ⟨g5, hd⟩ := gd_some hd
          refine x_iast (k := y5_6.toNatClampNeg) hx hb hK hP hD hS 1 0 rfl rfl (inb_in g5) rfl dX3_fadeCells_30 (fun H locs hP hD hS => ?_)
          have hP : va_P (dC, dI) vwCl [(h0, .inr (3, [.ref h1, .int v_blocks, .ref h2, .ref h3, .ref h4, .ref h5, .ref h6, .ref h7, .ref h8])), (h6, .inl (cI, 2464, .inl (upd v_volumes_6 y5_6.toNatClampNeg p3)))] H := hP
          have hD : va_D A [(h0, .inr (3, [.ref h1, .int v_blocks, .ref h2, .ref h3, .ref h4, .ref h5, .ref h6, .ref h7, .ref h8])), (h6, .inl (cI, 2464, .inl (upd v_volumes_6 y5_6.toNatClampNeg p3)))] := hD
          refine lv_iinc (v := (y4_6 + (1 : Int32))) (lv' := [(4, .int (y4_6 + (1 : Int32))), (0, .ref h0), (2, .int p2), (3, .int p3), (5, .int y5_6)]) hx hb dX3_fadeCells_31 hl (k := 3) rfl (by first | rfl | decide) (by decide) rfl (fun ls hl => ?_)
          refine lv_iinc (v := (y5_6 + (1 : Int32))) (lv' := [(5, .int (y5_6 + (1 : Int32))), (4, .int (y4_6 + (1 : Int32))), (0, .ref h0), (2, .int p2), (3, .int p3)]) hx hb dX3_fadeCells_34 hl (k := 4) rfl (by first | rfl | decide) (by decide) rfl (fun ls hl => ?_)
          refine lv_goto (tgt := 6) hx hb dX3_fadeCells_37 (by decide) ?_
          exact ih (y4_6 + (1 : Int32)) (y5_6 + (1 : Int32)) (upd v_volumes_6 y5_6.toNatClampNeg p3) hd _ _ _ hP hD hS (lv_sub hl [2, 3, 4, 1, 0] rfl)
  exact KL6 FU (0 : Int32) p1 v_volumes hq1 _ _ _ hP hD hS (lv_sub hl [2, 4, 5, 1, 0] rfl)
def rmX3_spoilCell : Room := { frames := 0, cells := 0, slots := 0, locals := 0 }
theorem kX3_spoilCell_1 : (Cond.fieldLink RX3 30 "CassetteTones$Tape" "bad" "[I") ∈ wsX3_spoilCell := List.mem_of_getElem? (i := 1) (by decide +kernel)
theorem inX3_spoilCell_X3 : ∀ w ∈ wsX30, w ∈ wsX3_spoilCell := by decide +kernel
theorem hp_X3_spoilCell : yX3_spoilCell.cls ≠ "java/lang/invoke/MethodHandle" ∧ yX3_spoilCell.cls ≠ "java/lang/invoke/VarHandle" ∧ (parseMethodDescriptor yX3_spoilCell.desc).map (fun d => d.parameters.length) = some 1 := by decide +kernel
theorem hv_X3_spoilCell : yX3_spoilCell.cls = RX3 ∧ yX3_spoilCell.cls ≠ "java/lang/invoke/MethodHandle" ∧ yX3_spoilCell.cls ≠ "java/lang/invoke/VarHandle" ∧ (parseMethodDescriptor yX3_spoilCell.desc).map (fun d => d.parameters.length) = some 1 := by decide +kernel
set_option maxHeartbeats 4000000 in
set_option maxRecDepth 100000 in
theorem c_X3_spoilCell (l : Launch) (dC : Nat → ClassId) (dI : Nat → Nat → Nat) (cI cC cZ cT cG : ClassId) (h0 h1 h2 h3 h4 h5 h6 h7 h8 : Nat) (sz : Nat) (v_blocks : Int32) (v_bad : (Nat → Int32)) (p1 : Int32) (r : (Int32 × (Nat → Int32))) (hd : den_X3_spoilCell v_bad p1 = some r) : Met l yX3_spoilCell wsX3_spoilCell rmX3_spoilCell (va_Pc [.ref h0, .int p1] (preB sz (dC, dI) [(h0, .inr (3, [.ref h1, .int v_blocks, .ref h2, .ref h3, .ref h4, .ref h5, .ref h6, .ref h7, .ref h8])), (h7, .inl (cI, 2464, .inl v_bad))] [(cI, .int), (cC, .char), (cZ, .boolean), (cT, .object "CassetteTones$Tape"), (cG, .object "CassetteTones$Telling")])) (va_Qi (S := Unit) (fun v _ => v = r.1) (fun _ t => posB (dC, dI) [(h0, .inr (3, [.ref h1, .int v_blocks, .ref h2, .ref h3, .ref h4, .ref h5, .ref h6, .ref h7, .ref h8])), (h7, .inl (cI, 2464, .inl r.2))] [(cI, .int), (cC, .char), (cZ, .boolean), (cT, .object "CassetteTones$Tape"), (cG, .object "CassetteTones$Telling")] (va_A [(h0, .inr (3, [.ref h1, .int v_blocks, .ref h2, .ref h3, .ref h4, .ref h5, .ref h6, .ref h7, .ref h8])), (h7, .inl (cI, 2464, .inl v_bad))] sz) t) (va_A [(h0, .inr (3, [.ref h1, .int v_blocks, .ref h2, .ref h3, .ref h4, .ref h5, .ref h6, .ref h7, .ref h8])), (h7, .inl (cI, 2464, .inl v_bad))] sz)) 0 0 (va_A [(h0, .inr (3, [.ref h1, .int v_blocks, .ref h2, .ref h3, .ref h4, .ref h5, .ref h6, .ref h7, .ref h8])), (h7, .inl (cI, 2464, .inl v_bad))] sz) := by
  refine x_met_i (by decide) rfl (Nat.le_of_ble_eq_true rfl) ?_
  intro p e s m args below meth c A Q H locs ls hx hb hml hown hts hK hN hA hP hD hS hl hend
  have hown : s.vm.findClass RX3 = some m.cls := hown
  have hl : lv_has ls 2 [(0, .ref h0), (1, .int p1)] := hl
  unfold den_X3_spoilCell at hd
  refine lv_aload_n hx hb dX3_spoilCell_0 rfl (lv_at hl 0 rfl) ?_
  refine va_get (D := (dC, dI)) (ci := 3) (v := .ref h7) (C := RX3) (T := TX3) (N := 9) hx hb hts inX3_spoilCell_X3 hown hK hP 0 rfl rfl 7 (by decide) (hts _ kX3_spoilCell_1) (fun _ h9 => h9) rfl dX3_spoilCell_1 ?_
  refine lv_iload_n hx hb dX3_spoilCell_4 rfl (lv_at hl 1 rfl) ?_
  refine lv_iconst (v := 1) hx hb dX3_spoilCell_5 (by decide) ?_
  refine lv_aload_n hx hb dX3_spoilCell_6 rfl (lv_at hl 0 rfl) ?_
  refine va_get (D := (dC, dI)) (ci := 3) (v := .ref h7) (C := RX3) (T := TX3) (N := 9) hx hb hts inX3_spoilCell_X3 hown hK hP 0 rfl rfl 7 (by decide) (hts _ kX3_spoilCell_1) (fun _ h9 => h9) rfl dX3_spoilCell_7 ?_
  refine lv_iload_n hx hb dX3_spoilCell_10 rfl (lv_at hl 1 rfl) ?_
  obtain ⟨g1, hd⟩ := gd_some hd
  refine x_iald (k := p1.toNatClampNeg) hx hb hK hP 1 0 rfl rfl (inb_in g1) rfl dX3_spoilCell_11 ?_
  refine lv_isub hx hb dX3_spoilCell_12 ?_
  obtain ⟨g2, hd⟩ := gd_some hd
  refine x_iast (k := p1.toNatClampNeg) hx hb hK hP hD hS 1 0 rfl rfl (inb_in g2) rfl dX3_spoilCell_13 (fun H locs hP hD hS => ?_)
  have hP : va_P (dC, dI) vwCl [(h0, .inr (3, [.ref h1, .int v_blocks, .ref h2, .ref h3, .ref h4, .ref h5, .ref h6, .ref h7, .ref h8])), (h7, .inl (cI, 2464, .inl (upd v_bad p1.toNatClampNeg ((1 : Int32) - (v_bad p1.toNatClampNeg)))))] H := hP
  have hD : va_D A [(h0, .inr (3, [.ref h1, .int v_blocks, .ref h2, .ref h3, .ref h4, .ref h5, .ref h6, .ref h7, .ref h8])), (h7, .inl (cI, 2464, .inl (upd v_bad p1.toNatClampNeg ((1 : Int32) - (v_bad p1.toNatClampNeg)))))] := hD
  refine lv_aload_n hx hb dX3_spoilCell_14 rfl (lv_at hl 0 rfl) ?_
  refine va_get (D := (dC, dI)) (ci := 3) (v := .ref h7) (C := RX3) (T := TX3) (N := 9) hx hb hts inX3_spoilCell_X3 hown hK hP 0 rfl rfl 7 (by decide) (hts _ kX3_spoilCell_1) (fun _ h9 => h9) rfl dX3_spoilCell_15 ?_
  refine lv_iload_n hx hb dX3_spoilCell_18 rfl (lv_at hl 1 rfl) ?_
  obtain ⟨g3, hd⟩ := gd_some hd
  refine x_iald (k := p1.toNatClampNeg) hx hb hK hP 1 0 rfl rfl (inb_in g3) rfl dX3_spoilCell_19 ?_
  cases hd
  exact hend (by rfl) hP hD hS dX3_spoilCell_20
def rmX3_silentCells : Room := { frames := 1, cells := 0, slots := 0, locals := 20 }
theorem kX3_silentCells_1 : (Cond.fieldLink RX3 27 "CassetteTones$Tape" "volumes" "[I") ∈ wsX3_silentCells := List.mem_of_getElem? (i := 1) (by decide +kernel)
theorem kX3_silentCells_2 : (Cond.fieldLink RX3 9 "CassetteTones$Tape" "settings" "[I") ∈ wsX3_silentCells := List.mem_of_getElem? (i := 2) (by decide +kernel)
theorem inX3_silentCells_X3 : ∀ w ∈ wsX30, w ∈ wsX3_silentCells := by decide +kernel
theorem hp_X3_silentCells : yX3_silentCells.cls ≠ "java/lang/invoke/MethodHandle" ∧ yX3_silentCells.cls ≠ "java/lang/invoke/VarHandle" ∧ (parseMethodDescriptor yX3_silentCells.desc).map (fun d => d.parameters.length) = some 0 := by decide +kernel
theorem hv_X3_silentCells : yX3_silentCells.cls = RX3 ∧ yX3_silentCells.cls ≠ "java/lang/invoke/MethodHandle" ∧ yX3_silentCells.cls ≠ "java/lang/invoke/VarHandle" ∧ (parseMethodDescriptor yX3_silentCells.desc).map (fun d => d.parameters.length) = some 0 := by decide +kernel
set_option maxHeartbeats 4000000 in
set_option maxRecDepth 100000 in
theorem c_X3_silentCells (l : Launch) (dC : Nat → ClassId) (dI : Nat → Nat → Nat) (cI cC cZ cT cG : ClassId) (h0 h1 h2 h3 h4 h5 h6 h7 h8 : Nat) (sz : Nat) (v_settings : (Nat → Int32)) (v_blocks : Int32) (v_firsts : (Nat → Int32)) (v_volumes : (Nat → Int32)) (r : Int32) (hd : den_X3_silentCells v_settings v_blocks v_firsts v_volumes = some r) : Met l yX3_silentCells wsX3_silentCells rmX3_silentCells (va_Pc [.ref h0] (preB sz (dC, dI) [(h0, .inr (3, [.ref h1, .int v_blocks, .ref h2, .ref h3, .ref h4, .ref h5, .ref h6, .ref h7, .ref h8])), (h1, .inl (cI, 3, .inl v_settings)), (h5, .inl (cI, 17, .inl v_firsts)), (h6, .inl (cI, 2464, .inl v_volumes))] [(cI, .int), (cC, .char), (cZ, .boolean), (cT, .object "CassetteTones$Tape"), (cG, .object "CassetteTones$Telling")])) (va_Qi (S := Unit) (fun v _ => v = r) (fun _ t => posB (dC, dI) [(h0, .inr (3, [.ref h1, .int v_blocks, .ref h2, .ref h3, .ref h4, .ref h5, .ref h6, .ref h7, .ref h8])), (h1, .inl (cI, 3, .inl v_settings)), (h5, .inl (cI, 17, .inl v_firsts)), (h6, .inl (cI, 2464, .inl v_volumes))] [(cI, .int), (cC, .char), (cZ, .boolean), (cT, .object "CassetteTones$Tape"), (cG, .object "CassetteTones$Telling")] (va_A [(h0, .inr (3, [.ref h1, .int v_blocks, .ref h2, .ref h3, .ref h4, .ref h5, .ref h6, .ref h7, .ref h8])), (h1, .inl (cI, 3, .inl v_settings)), (h5, .inl (cI, 17, .inl v_firsts)), (h6, .inl (cI, 2464, .inl v_volumes))] sz) t) (va_A [(h0, .inr (3, [.ref h1, .int v_blocks, .ref h2, .ref h3, .ref h4, .ref h5, .ref h6, .ref h7, .ref h8])), (h1, .inl (cI, 3, .inl v_settings)), (h5, .inl (cI, 17, .inl v_firsts)), (h6, .inl (cI, 2464, .inl v_volumes))] sz)) 0 0 (va_A [(h0, .inr (3, [.ref h1, .int v_blocks, .ref h2, .ref h3, .ref h4, .ref h5, .ref h6, .ref h7, .ref h8])), (h1, .inl (cI, 3, .inl v_settings)), (h5, .inl (cI, 17, .inl v_firsts)), (h6, .inl (cI, 2464, .inl v_volumes))] sz) := by
  refine x_met_i (by decide) rfl (Nat.le_of_ble_eq_true rfl) ?_
  intro p e s m args below meth c A Q H locs ls hx hb hml hown hts hK hN hA hP hD hS hl hend
  have hown : s.vm.findClass RX3 = some m.cls := hown
  have hl : lv_has ls 4 [(0, .ref h0)] := hl
  unfold den_X3_silentCells at hd
  refine lv_iconst (v := 0) hx hb dX3_silentCells_0 (by decide) ?_
  refine lv_istore_n (lv' := [(1, .int (0 : Int32)), (0, .ref h0)]) hx hb dX3_silentCells_1 rfl hl (by decide) rfl (fun ls hl => ?_)
  refine lv_aload_n hx hb dX3_silentCells_2 rfl (lv_at hl 1 rfl) ?_
  obtain ⟨q1, hq1, hd⟩ := bnd_some hd
  have hPc : va_P (dC, dI) vwCl [(h0, .inr (3, [.ref h1, .int v_blocks, .ref h2, .ref h3, .ref h4, .ref h5, .ref h6, .ref h7, .ref h8])), (h5, .inl (cI, 17, .inl v_firsts))] _ := hP.sub [0, 2] rfl
  have hDc := hD.sub (ws' := [(h0, .inr (3, [.ref h1, .int v_blocks, .ref h2, .ref h3, .ref h4, .ref h5, .ref h6, .ref h7, .ref h8])), (h5, .inl (cI, 17, .inl v_firsts))]) [0, 2] (by decide) rfl
  have hFc := va_free (wc := [(h0, .inr (3, [.ref h1, .int v_blocks, .ref h2, .ref h3, .ref h4, .ref h5, .ref h6, .ref h7, .ref h8])), (h5, .inl (cI, 17, .inl v_firsts))]) hD hS hA [0, 2] rfl
  refine va_calli (va_runV (As := []) (rest := []) ⟨hx, hb, hml, hown, hts⟩ (c_X3_cells l dC dI cI cC cZ cT cG h0 h1 h2 h3 h4 h5 h6 h7 h8 H.size v_blocks v_firsts q1 hq1) (cwV 0 hts gX3_silentCells_X3_cells rfl rfl rfl hv_X3_cells ⟨Nat.le_of_ble_eq_true rfl, Nat.le_of_ble_eq_true rfl⟩) ⟨preB_fb, va_recv hK hPc (ci := 3) (q0 := 0) rfl rfl, fun U hU hW => preB_mk hU hW hPc hK hDc hN⟩ rfl rfl hl.1 rfl (lv_room (Nat.le_of_ble_eq_true rfl)) dX3_silentCells_3 ⟨Nat.zero_le _, Nat.zero_le _⟩) hS (fun q _ h => hFc q h) hFc (fun r_ u_ t H locs ht hvm hw hB hz1 hk1 hS => ?_)
  have hw : r_ = q1 := hw
  have hw := hw.symm
  subst hw
  obtain ⟨hP, hD⟩ := x_join (ws' := [(h0, .inr (3, [.ref h1, .int v_blocks, .ref h2, .ref h3, .ref h4, .ref h5, .ref h6, .ref h7, .ref h8])), (h1, .inl (cI, 3, .inl v_settings)), (h5, .inl (cI, 17, .inl v_firsts)), (h6, .inl (cI, 2464, .inl v_volumes))]) hP hD [0, 2] [1, 3] rfl rfl (by decide) (by decide) hk1 hFc ht hB [2, 0, 3, 1] (by decide) rfl
  clear hPc hDc hFc hk1 hB ht hz1 hvm
  refine lv_istore_n (lv' := [(2, .int q1), (1, .int (0 : Int32)), (0, .ref h0)]) hx hb dX3_silentCells_6 rfl hl (by decide) rfl (fun ls hl => ?_)
  refine lv_iconst (v := 0) hx hb dX3_silentCells_7 (by decide) ?_
  refine lv_istore_n (lv' := [(3, .int (0 : Int32)), (2, .int q1), (1, .int (0 : Int32)), (0, .ref h0)]) hx hb dX3_silentCells_8 rfl hl (by decide) rfl (fun ls hl => ?_)
  obtain ⟨q2, hq2, hd⟩ := bnd_some hd
  have Kq2 : ∀ (H : Heap) (locs : List Loc) (ls : Array Slot), va_P (dC, dI) vwCl [(h0, .inr (3, [.ref h1, .int v_blocks, .ref h2, .ref h3, .ref h4, .ref h5, .ref h6, .ref h7, .ref h8])), (h1, .inl (cI, 3, .inl v_settings)), (h5, .inl (cI, 17, .inl v_firsts)), (h6, .inl (cI, 2464, .inl v_volumes))] H → va_D A [(h0, .inr (3, [.ref h1, .int v_blocks, .ref h2, .ref h3, .ref h4, .ref h5, .ref h6, .ref h7, .ref h8])), (h1, .inl (cI, 3, .inl v_settings)), (h5, .inl (cI, 17, .inl v_firsts)), (h6, .inl (cI, 2464, .inl v_volumes))] → va_S A s.heap H locs → lv_has ls 4 [(1, .int q2)] → W p l e rmX3_silentCells s m args below meth c H locs 0 0 Q (F0 m 38 ls []) := by
    intro H locs ls hP hD hS hl
    refine lv_iload_n hx hb dX3_silentCells_38 rfl (lv_at hl 0 rfl) ?_
    cases hd
    exact hend (by rfl) hP hD hS dX3_silentCells_39
  clear hd
  have KL6 : ∀ (fu : Nat) (y1_9 : Int32) (y3_9 : Int32) (hd : den_X3_silentCells_L9 v_settings v_volumes q1 fu y1_9 y3_9 = some q2) (H : Heap) (locs : List Loc) (ls : Array Slot), va_P (dC, dI) vwCl [(h0, .inr (3, [.ref h1, .int v_blocks, .ref h2, .ref h3, .ref h4, .ref h5, .ref h6, .ref h7, .ref h8])), (h1, .inl (cI, 3, .inl v_settings)), (h5, .inl (cI, 17, .inl v_firsts)), (h6, .inl (cI, 2464, .inl v_volumes))] H → va_D A [(h0, .inr (3, [.ref h1, .int v_blocks, .ref h2, .ref h3, .ref h4, .ref h5, .ref h6, .ref h7, .ref h8])), (h1, .inl (cI, 3, .inl v_settings)), (h5, .inl (cI, 17, .inl v_firsts)), (h6, .inl (cI, 2464, .inl v_volumes))] → va_S A s.heap H locs → lv_has ls 4 [(0, .ref h0), (1, .int y1_9), (2, .int q1), (3, .int y3_9)] → W p l e rmX3_silentCells s m args below meth c H locs 0 0 Q (F0 m 9 ls []) := by
    intro fu
    induction fu with
    | zero => intro y1_9 y3_9 hd; exact no_some hd
    | succ fu ih =>
      intro y1_9 y3_9 hd H locs ls hP hD hS hl
      rw [den_X3_silentCells_L9] at hd
      refine lv_iload_n hx hb dX3_silentCells_9 rfl (lv_at hl 3 rfl) ?_
      refine lv_iload_n hx hb dX3_silentCells_10 rfl (lv_at hl 2 rfl) ?_
      refine lv_icmp_ge (tgt := 38) hx hb dX3_silentCells_11 (by decide) (fun c3 => ?_) (fun c3 => ?_)
      · replace hd := ite_t c3 hd
        cases hd
        exact Kq2 _ _ _ hP hD hS (lv_sub hl [1] rfl)
      · replace hd := ite_f c3 hd
        refine lv_aload_n hx hb dX3_silentCells_14 rfl (lv_at hl 0 rfl) ?_
        refine va_get (D := (dC, dI)) (ci := 3) (v := .ref h6) (C := RX3) (T := TX3) (N := 9) hx hb hts inX3_silentCells_X3 hown hK hP 0 rfl rfl 6 (by decide) (hts _ kX3_silentCells_1) (fun _ h9 => h9) rfl dX3_silentCells_15 ?_
        refine lv_iload_n hx hb dX3_silentCells_18 rfl (lv_at hl 3 rfl) ?_
        obtain ⟨g4, hd⟩ := gd_some hd
        refine x_iald (k := y3_9.toNatClampNeg) hx hb hK hP 3 0 rfl rfl (inb_in g4) rfl dX3_silentCells_19 ?_
        refine lv_aload_n hx hb dX3_silentCells_20 rfl (lv_at hl 0 rfl) ?_
        refine va_get (D := (dC, dI)) (ci := 3) (v := .ref h1) (C := RX3) (T := TX3) (N := 9) hx hb hts inX3_silentCells_X3 hown hK hP 0 rfl rfl 0 (by decide) (hts _ kX3_silentCells_2) (fun _ h9 => h9) rfl dX3_silentCells_21 ?_
        refine lv_iconst (v := 1) hx hb dX3_silentCells_24 (by decide) ?_
        refine x_iald (k := 1) hx hb hK hP 1 0 rfl rfl (inb_in (by decide)) rfl dX3_silentCells_25 ?_
        refine lv_icmp_ge (tgt := 32) hx hb dX3_silentCells_26 (by decide) (fun c5 => ?_) (fun c5 => ?_)
        · replace hd := ite_t c5 hd
          refine lv_iinc (v := (y3_9 + (1 : Int32))) (lv' := [(3, .int (y3_9 + (1 : Int32))), (0, .ref h0), (1, .int y1_9), (2, .int q1)]) hx hb dX3_silentCells_32 hl (k := 3) rfl (by first | rfl | decide) (by decide) rfl (fun ls hl => ?_)
          refine lv_goto (tgt := 9) hx hb dX3_silentCells_35 (by decide) ?_
          exact ih y1_9 (y3_9 + (1 : Int32)) hd _ _ _ hP hD hS (lv_sub hl [1, 2, 3, 0] rfl)
        · replace hd := ite_f c5 hd
          refine lv_iinc (v := (y1_9 + (1 : Int32))) (lv' := [(1, .int (y1_9 + (1 : Int32))), (0, .ref h0), (2, .int q1), (3, .int y3_9)]) hx hb dX3_silentCells_29 hl (k := 1) rfl (by first | rfl | decide) (by decide) rfl (fun ls hl => ?_)
          refine lv_iinc (v := (y3_9 + (1 : Int32))) (lv' := [(3, .int (y3_9 + (1 : Int32))), (1, .int (y1_9 + (1 : Int32))), (0, .ref h0), (2, .int q1)]) hx hb dX3_silentCells_32 hl (k := 3) rfl (by first | rfl | decide) (by decide) rfl (fun ls hl => ?_)
          refine lv_goto (tgt := 9) hx hb dX3_silentCells_35 (by decide) ?_
          exact ih (y1_9 + (1 : Int32)) (y3_9 + (1 : Int32)) hd _ _ _ hP hD hS (lv_sub hl [2, 1, 3, 0] rfl)
  exact KL6 FU (0 : Int32) (0 : Int32) hq2 _ _ _ hP hD hS (lv_sub hl [3, 2, 1, 0] rfl)
def rmX3_badCells : Room := { frames := 1, cells := 0, slots := 0, locals := 20 }
theorem kX3_badCells_1 : (Cond.fieldLink RX3 30 "CassetteTones$Tape" "bad" "[I") ∈ wsX3_badCells := List.mem_of_getElem? (i := 1) (by decide +kernel)
theorem inX3_badCells_X3 : ∀ w ∈ wsX30, w ∈ wsX3_badCells := by decide +kernel
theorem hp_X3_badCells : yX3_badCells.cls ≠ "java/lang/invoke/MethodHandle" ∧ yX3_badCells.cls ≠ "java/lang/invoke/VarHandle" ∧ (parseMethodDescriptor yX3_badCells.desc).map (fun d => d.parameters.length) = some 0 := by decide +kernel
theorem hv_X3_badCells : yX3_badCells.cls = RX3 ∧ yX3_badCells.cls ≠ "java/lang/invoke/MethodHandle" ∧ yX3_badCells.cls ≠ "java/lang/invoke/VarHandle" ∧ (parseMethodDescriptor yX3_badCells.desc).map (fun d => d.parameters.length) = some 0 := by decide +kernel
set_option maxHeartbeats 4000000 in
set_option maxRecDepth 100000 in
theorem c_X3_badCells (l : Launch) (dC : Nat → ClassId) (dI : Nat → Nat → Nat) (cI cC cZ cT cG : ClassId) (h0 h1 h2 h3 h4 h5 h6 h7 h8 : Nat) (sz : Nat) (v_blocks : Int32) (v_firsts : (Nat → Int32)) (v_bad : (Nat → Int32)) (r : Int32) (hd : den_X3_badCells v_blocks v_firsts v_bad = some r) : Met l yX3_badCells wsX3_badCells rmX3_badCells (va_Pc [.ref h0] (preB sz (dC, dI) [(h0, .inr (3, [.ref h1, .int v_blocks, .ref h2, .ref h3, .ref h4, .ref h5, .ref h6, .ref h7, .ref h8])), (h5, .inl (cI, 17, .inl v_firsts)), (h7, .inl (cI, 2464, .inl v_bad))] [(cI, .int), (cC, .char), (cZ, .boolean), (cT, .object "CassetteTones$Tape"), (cG, .object "CassetteTones$Telling")])) (va_Qi (S := Unit) (fun v _ => v = r) (fun _ t => posB (dC, dI) [(h0, .inr (3, [.ref h1, .int v_blocks, .ref h2, .ref h3, .ref h4, .ref h5, .ref h6, .ref h7, .ref h8])), (h5, .inl (cI, 17, .inl v_firsts)), (h7, .inl (cI, 2464, .inl v_bad))] [(cI, .int), (cC, .char), (cZ, .boolean), (cT, .object "CassetteTones$Tape"), (cG, .object "CassetteTones$Telling")] (va_A [(h0, .inr (3, [.ref h1, .int v_blocks, .ref h2, .ref h3, .ref h4, .ref h5, .ref h6, .ref h7, .ref h8])), (h5, .inl (cI, 17, .inl v_firsts)), (h7, .inl (cI, 2464, .inl v_bad))] sz) t) (va_A [(h0, .inr (3, [.ref h1, .int v_blocks, .ref h2, .ref h3, .ref h4, .ref h5, .ref h6, .ref h7, .ref h8])), (h5, .inl (cI, 17, .inl v_firsts)), (h7, .inl (cI, 2464, .inl v_bad))] sz)) 0 0 (va_A [(h0, .inr (3, [.ref h1, .int v_blocks, .ref h2, .ref h3, .ref h4, .ref h5, .ref h6, .ref h7, .ref h8])), (h5, .inl (cI, 17, .inl v_firsts)), (h7, .inl (cI, 2464, .inl v_bad))] sz) := by
  refine x_met_i (by decide) rfl (Nat.le_of_ble_eq_true rfl) ?_
  intro p e s m args below meth c A Q H locs ls hx hb hml hown hts hK hN hA hP hD hS hl hend
  have hown : s.vm.findClass RX3 = some m.cls := hown
  have hl : lv_has ls 4 [(0, .ref h0)] := hl
  unfold den_X3_badCells at hd
  refine lv_iconst (v := 0) hx hb dX3_badCells_0 (by decide) ?_
  refine lv_istore_n (lv' := [(1, .int (0 : Int32)), (0, .ref h0)]) hx hb dX3_badCells_1 rfl hl (by decide) rfl (fun ls hl => ?_)
  refine lv_aload_n hx hb dX3_badCells_2 rfl (lv_at hl 1 rfl) ?_
  obtain ⟨q1, hq1, hd⟩ := bnd_some hd
  have hPc : va_P (dC, dI) vwCl [(h0, .inr (3, [.ref h1, .int v_blocks, .ref h2, .ref h3, .ref h4, .ref h5, .ref h6, .ref h7, .ref h8])), (h5, .inl (cI, 17, .inl v_firsts))] _ := hP.sub [0, 1] rfl
  have hDc := hD.sub (ws' := [(h0, .inr (3, [.ref h1, .int v_blocks, .ref h2, .ref h3, .ref h4, .ref h5, .ref h6, .ref h7, .ref h8])), (h5, .inl (cI, 17, .inl v_firsts))]) [0, 1] (by decide) rfl
  have hFc := va_free (wc := [(h0, .inr (3, [.ref h1, .int v_blocks, .ref h2, .ref h3, .ref h4, .ref h5, .ref h6, .ref h7, .ref h8])), (h5, .inl (cI, 17, .inl v_firsts))]) hD hS hA [0, 1] rfl
  refine va_calli (va_runV (As := []) (rest := []) ⟨hx, hb, hml, hown, hts⟩ (c_X3_cells l dC dI cI cC cZ cT cG h0 h1 h2 h3 h4 h5 h6 h7 h8 H.size v_blocks v_firsts q1 hq1) (cwV 0 hts gX3_badCells_X3_cells rfl rfl rfl hv_X3_cells ⟨Nat.le_of_ble_eq_true rfl, Nat.le_of_ble_eq_true rfl⟩) ⟨preB_fb, va_recv hK hPc (ci := 3) (q0 := 0) rfl rfl, fun U hU hW => preB_mk hU hW hPc hK hDc hN⟩ rfl rfl hl.1 rfl (lv_room (Nat.le_of_ble_eq_true rfl)) dX3_badCells_3 ⟨Nat.zero_le _, Nat.zero_le _⟩) hS (fun q _ h => hFc q h) hFc (fun r_ u_ t H locs ht hvm hw hB hz1 hk1 hS => ?_)
  have hw : r_ = q1 := hw
  have hw := hw.symm
  subst hw
  obtain ⟨hP, hD⟩ := x_join (ws' := [(h0, .inr (3, [.ref h1, .int v_blocks, .ref h2, .ref h3, .ref h4, .ref h5, .ref h6, .ref h7, .ref h8])), (h5, .inl (cI, 17, .inl v_firsts)), (h7, .inl (cI, 2464, .inl v_bad))]) hP hD [0, 1] [2] rfl rfl (by decide) (by decide) hk1 hFc ht hB [1, 2, 0] (by decide) rfl
  clear hPc hDc hFc hk1 hB ht hz1 hvm
  refine lv_istore_n (lv' := [(2, .int q1), (1, .int (0 : Int32)), (0, .ref h0)]) hx hb dX3_badCells_6 rfl hl (by decide) rfl (fun ls hl => ?_)
  refine lv_iconst (v := 0) hx hb dX3_badCells_7 (by decide) ?_
  refine lv_istore_n (lv' := [(3, .int (0 : Int32)), (2, .int q1), (1, .int (0 : Int32)), (0, .ref h0)]) hx hb dX3_badCells_8 rfl hl (by decide) rfl (fun ls hl => ?_)
  obtain ⟨q2, hq2, hd⟩ := bnd_some hd
  have Kq2 : ∀ (H : Heap) (locs : List Loc) (ls : Array Slot), va_P (dC, dI) vwCl [(h0, .inr (3, [.ref h1, .int v_blocks, .ref h2, .ref h3, .ref h4, .ref h5, .ref h6, .ref h7, .ref h8])), (h5, .inl (cI, 17, .inl v_firsts)), (h7, .inl (cI, 2464, .inl v_bad))] H → va_D A [(h0, .inr (3, [.ref h1, .int v_blocks, .ref h2, .ref h3, .ref h4, .ref h5, .ref h6, .ref h7, .ref h8])), (h5, .inl (cI, 17, .inl v_firsts)), (h7, .inl (cI, 2464, .inl v_bad))] → va_S A s.heap H locs → lv_has ls 4 [(1, .int q2)] → W p l e rmX3_badCells s m args below meth c H locs 0 0 Q (F0 m 29 ls []) := by
    intro H locs ls hP hD hS hl
    refine lv_iload_n hx hb dX3_badCells_29 rfl (lv_at hl 0 rfl) ?_
    cases hd
    exact hend (by rfl) hP hD hS dX3_badCells_30
  clear hd
  have KL5 : ∀ (fu : Nat) (y1_9 : Int32) (y3_9 : Int32) (hd : den_X3_badCells_L9 v_bad q1 fu y1_9 y3_9 = some q2) (H : Heap) (locs : List Loc) (ls : Array Slot), va_P (dC, dI) vwCl [(h0, .inr (3, [.ref h1, .int v_blocks, .ref h2, .ref h3, .ref h4, .ref h5, .ref h6, .ref h7, .ref h8])), (h5, .inl (cI, 17, .inl v_firsts)), (h7, .inl (cI, 2464, .inl v_bad))] H → va_D A [(h0, .inr (3, [.ref h1, .int v_blocks, .ref h2, .ref h3, .ref h4, .ref h5, .ref h6, .ref h7, .ref h8])), (h5, .inl (cI, 17, .inl v_firsts)), (h7, .inl (cI, 2464, .inl v_bad))] → va_S A s.heap H locs → lv_has ls 4 [(0, .ref h0), (1, .int y1_9), (2, .int q1), (3, .int y3_9)] → W p l e rmX3_badCells s m args below meth c H locs 0 0 Q (F0 m 9 ls []) := by
    intro fu
    induction fu with
    | zero => intro y1_9 y3_9 hd; exact no_some hd
    | succ fu ih =>
      intro y1_9 y3_9 hd H locs ls hP hD hS hl
      rw [den_X3_badCells_L9] at hd
      refine lv_iload_n hx hb dX3_badCells_9 rfl (lv_at hl 3 rfl) ?_
      refine lv_iload_n hx hb dX3_badCells_10 rfl (lv_at hl 2 rfl) ?_
      refine lv_icmp_ge (tgt := 29) hx hb dX3_badCells_11 (by decide) (fun c3 => ?_) (fun c3 => ?_)
      · replace hd := ite_t c3 hd
        cases hd
        exact Kq2 _ _ _ hP hD hS (lv_sub hl [1] rfl)
      · replace hd := ite_f c3 hd
        refine lv_iload_n hx hb dX3_badCells_14 rfl (lv_at hl 1 rfl) ?_
        refine lv_aload_n hx hb dX3_badCells_15 rfl (lv_at hl 0 rfl) ?_
        refine va_get (D := (dC, dI)) (ci := 3) (v := .ref h7) (C := RX3) (T := TX3) (N := 9) hx hb hts inX3_badCells_X3 hown hK hP 0 rfl rfl 7 (by decide) (hts _ kX3_badCells_1) (fun _ h9 => h9) rfl dX3_badCells_16 ?_
        refine lv_iload_n hx hb dX3_badCells_19 rfl (lv_at hl 3 rfl) ?_
        obtain ⟨g4, hd⟩ := gd_some hd
        refine x_iald (k := y3_9.toNatClampNeg) hx hb hK hP 2 0 rfl rfl (inb_in g4) rfl dX3_badCells_20 ?_
        refine lv_iadd hx hb dX3_badCells_21 ?_
        refine lv_istore_n (lv' := [(1, .int (y1_9 + (v_bad y3_9.toNatClampNeg))), (0, .ref h0), (2, .int q1), (3, .int y3_9)]) hx hb dX3_badCells_22 rfl hl (by decide) rfl (fun ls hl => ?_)
        refine lv_iinc (v := (y3_9 + (1 : Int32))) (lv' := [(3, .int (y3_9 + (1 : Int32))), (1, .int (y1_9 + (v_bad y3_9.toNatClampNeg))), (0, .ref h0), (2, .int q1)]) hx hb dX3_badCells_23 hl (k := 3) rfl (by first | rfl | decide) (by decide) rfl (fun ls hl => ?_)
        refine lv_goto (tgt := 9) hx hb dX3_badCells_26 (by decide) ?_
        exact ih (y1_9 + (v_bad y3_9.toNatClampNeg)) (y3_9 + (1 : Int32)) hd _ _ _ hP hD hS (lv_sub hl [2, 1, 3, 0] rfl)
  exact KL5 FU (0 : Int32) (0 : Int32) hq2 _ _ _ hP hD hS (lv_sub hl [3, 2, 1, 0] rfl)
def rmX3_blockAt : Room := { frames := 0, cells := 0, slots := 0, locals := 0 }
theorem kX3_blockAt_1 : (Cond.fieldLink RX3 36 "CassetteTones$Tape" "blocks" "I") ∈ wsX3_blockAt := List.mem_of_getElem? (i := 1) (by decide +kernel)
theorem kX3_blockAt_2 : (Cond.fieldLink RX3 24 "CassetteTones$Tape" "firsts" "[I") ∈ wsX3_blockAt := List.mem_of_getElem? (i := 2) (by decide +kernel)
theorem inX3_blockAt_X3 : ∀ w ∈ wsX30, w ∈ wsX3_blockAt := by decide +kernel
theorem hp_X3_blockAt : yX3_blockAt.cls ≠ "java/lang/invoke/MethodHandle" ∧ yX3_blockAt.cls ≠ "java/lang/invoke/VarHandle" ∧ (parseMethodDescriptor yX3_blockAt.desc).map (fun d => d.parameters.length) = some 1 := by decide +kernel
theorem hv_X3_blockAt : yX3_blockAt.cls = RX3 ∧ yX3_blockAt.cls ≠ "java/lang/invoke/MethodHandle" ∧ yX3_blockAt.cls ≠ "java/lang/invoke/VarHandle" ∧ (parseMethodDescriptor yX3_blockAt.desc).map (fun d => d.parameters.length) = some 1 := by decide +kernel
set_option maxHeartbeats 4000000 in
set_option maxRecDepth 100000 in
theorem c_X3_blockAt (l : Launch) (dC : Nat → ClassId) (dI : Nat → Nat → Nat) (cI cC cZ cT cG : ClassId) (h0 h1 h2 h3 h4 h5 h6 h7 h8 : Nat) (sz : Nat) (v_blocks : Int32) (v_firsts : (Nat → Int32)) (p1 : Int32) (r : Int32) (hd : den_X3_blockAt v_blocks v_firsts p1 = some r) : Met l yX3_blockAt wsX3_blockAt rmX3_blockAt (va_Pc [.ref h0, .int p1] (preB sz (dC, dI) [(h0, .inr (3, [.ref h1, .int v_blocks, .ref h2, .ref h3, .ref h4, .ref h5, .ref h6, .ref h7, .ref h8])), (h5, .inl (cI, 17, .inl v_firsts))] [(cI, .int), (cC, .char), (cZ, .boolean), (cT, .object "CassetteTones$Tape"), (cG, .object "CassetteTones$Telling")])) (va_Qi (S := Unit) (fun v _ => v = r) (fun _ t => posB (dC, dI) [(h0, .inr (3, [.ref h1, .int v_blocks, .ref h2, .ref h3, .ref h4, .ref h5, .ref h6, .ref h7, .ref h8])), (h5, .inl (cI, 17, .inl v_firsts))] [(cI, .int), (cC, .char), (cZ, .boolean), (cT, .object "CassetteTones$Tape"), (cG, .object "CassetteTones$Telling")] (va_A [(h0, .inr (3, [.ref h1, .int v_blocks, .ref h2, .ref h3, .ref h4, .ref h5, .ref h6, .ref h7, .ref h8])), (h5, .inl (cI, 17, .inl v_firsts))] sz) t) (va_A [(h0, .inr (3, [.ref h1, .int v_blocks, .ref h2, .ref h3, .ref h4, .ref h5, .ref h6, .ref h7, .ref h8])), (h5, .inl (cI, 17, .inl v_firsts))] sz)) 0 0 (va_A [(h0, .inr (3, [.ref h1, .int v_blocks, .ref h2, .ref h3, .ref h4, .ref h5, .ref h6, .ref h7, .ref h8])), (h5, .inl (cI, 17, .inl v_firsts))] sz) := by
  refine x_met_i (by decide) rfl (Nat.le_of_ble_eq_true rfl) ?_
  intro p e s m args below meth c A Q H locs ls hx hb hml hown hts hK hN hA hP hD hS hl hend
  have hown : s.vm.findClass RX3 = some m.cls := hown
  have hl : lv_has ls 3 [(0, .ref h0), (1, .int p1)] := hl
  unfold den_X3_blockAt at hd
  refine lv_iconst (v := 0) hx hb dX3_blockAt_0 (by decide) ?_
  refine lv_istore_n (lv' := [(2, .int (0 : Int32)), (0, .ref h0), (1, .int p1)]) hx hb dX3_blockAt_1 rfl hl (by decide) rfl (fun ls hl => ?_)
  obtain ⟨q1, hq1, hd⟩ := bnd_some hd
  have Kq1 : ∀ (H : Heap) (locs : List Loc) (ls : Array Slot), va_P (dC, dI) vwCl [(h0, .inr (3, [.ref h1, .int v_blocks, .ref h2, .ref h3, .ref h4, .ref h5, .ref h6, .ref h7, .ref h8])), (h5, .inl (cI, 17, .inl v_firsts))] H → va_D A [(h0, .inr (3, [.ref h1, .int v_blocks, .ref h2, .ref h3, .ref h4, .ref h5, .ref h6, .ref h7, .ref h8])), (h5, .inl (cI, 17, .inl v_firsts))] → va_S A s.heap H locs → lv_has ls 3 [(2, .int q1)] → W p l e rmX3_blockAt s m args below meth c H locs 0 0 Q (F0 m 30 ls []) := by
    intro H locs ls hP hD hS hl
    refine lv_iload_n hx hb dX3_blockAt_30 rfl (lv_at hl 0 rfl) ?_
    cases hd
    exact hend (by rfl) hP hD hS dX3_blockAt_31
  clear hd
  have KL5 : ∀ (fu : Nat) (y2_2 : Int32) (hd : den_X3_blockAt_L2 p1 v_blocks v_firsts fu y2_2 = some q1) (H : Heap) (locs : List Loc) (ls : Array Slot), va_P (dC, dI) vwCl [(h0, .inr (3, [.ref h1, .int v_blocks, .ref h2, .ref h3, .ref h4, .ref h5, .ref h6, .ref h7, .ref h8])), (h5, .inl (cI, 17, .inl v_firsts))] H → va_D A [(h0, .inr (3, [.ref h1, .int v_blocks, .ref h2, .ref h3, .ref h4, .ref h5, .ref h6, .ref h7, .ref h8])), (h5, .inl (cI, 17, .inl v_firsts))] → va_S A s.heap H locs → lv_has ls 3 [(0, .ref h0), (1, .int p1), (2, .int y2_2)] → W p l e rmX3_blockAt s m args below meth c H locs 0 0 Q (F0 m 2 ls []) := by
    intro fu
    induction fu with
    | zero => intro y2_2 hd; exact no_some hd
    | succ fu ih =>
      intro y2_2 hd H locs ls hP hD hS hl
      rw [den_X3_blockAt_L2] at hd
      refine lv_iload_n hx hb dX3_blockAt_2 rfl (lv_at hl 2 rfl) ?_
      refine lv_aload_n hx hb dX3_blockAt_3 rfl (lv_at hl 0 rfl) ?_
      refine va_get (D := (dC, dI)) (ci := 3) (v := .int v_blocks) (C := RX3) (T := TX3) (N := 9) hx hb hts inX3_blockAt_X3 hown hK hP 0 rfl rfl 1 (by decide) (hts _ kX3_blockAt_1) (fun _ h9 => h9) rfl dX3_blockAt_4 ?_
      refine lv_iconst (v := 1) hx hb dX3_blockAt_7 (by decide) ?_
      refine lv_isub hx hb dX3_blockAt_8 ?_
      refine lv_icmp_ge (tgt := 30) hx hb dX3_blockAt_9 (by decide) (fun c2 => ?_) (fun c2 => ?_)
      · replace hd := ite_t c2 hd
        cases hd
        exact Kq1 _ _ _ hP hD hS (lv_sub hl [2] rfl)
      · replace hd := ite_f c2 hd
        refine lv_iload_n hx hb dX3_blockAt_12 rfl (lv_at hl 1 rfl) ?_
        refine lv_aload_n hx hb dX3_blockAt_13 rfl (lv_at hl 0 rfl) ?_
        refine va_get (D := (dC, dI)) (ci := 3) (v := .ref h5) (C := RX3) (T := TX3) (N := 9) hx hb hts inX3_blockAt_X3 hown hK hP 0 rfl rfl 5 (by decide) (hts _ kX3_blockAt_2) (fun _ h9 => h9) rfl dX3_blockAt_14 ?_
        refine lv_iload_n hx hb dX3_blockAt_17 rfl (lv_at hl 2 rfl) ?_
        refine lv_iconst (v := 1) hx hb dX3_blockAt_18 (by decide) ?_
        refine lv_iadd hx hb dX3_blockAt_19 ?_
        obtain ⟨g3, hd⟩ := gd_some hd
        refine x_iald (k := (y2_2 + (1 : Int32)).toNatClampNeg) hx hb hK hP 1 0 rfl rfl (inb_in g3) rfl dX3_blockAt_20 ?_
        refine lv_icmp_lt (tgt := 30) hx hb dX3_blockAt_21 (by decide) (fun c4 => ?_) (fun c4 => ?_)
        · replace hd := ite_t c4 hd
          cases hd
          exact Kq1 _ _ _ hP hD hS (lv_sub hl [2] rfl)
        · replace hd := ite_f c4 hd
          refine lv_iinc (v := (y2_2 + (1 : Int32))) (lv' := [(2, .int (y2_2 + (1 : Int32))), (0, .ref h0), (1, .int p1)]) hx hb dX3_blockAt_24 hl (k := 2) rfl (by first | rfl | decide) (by decide) rfl (fun ls hl => ?_)
          refine lv_goto (tgt := 2) hx hb dX3_blockAt_27 (by decide) ?_
          exact ih (y2_2 + (1 : Int32)) hd _ _ _ hP hD hS (lv_sub hl [1, 2, 0] rfl)
  exact KL5 FU (0 : Int32) hq1 _ _ _ hP hD hS (lv_sub hl [1, 2, 0] rfl)
def rmX3_partAt : Room := { frames := 1, cells := 0, slots := 0, locals := 22 }
theorem kX3_partAt_1 : (Cond.fieldLink RX3 24 "CassetteTones$Tape" "firsts" "[I") ∈ wsX3_partAt := List.mem_of_getElem? (i := 1) (by decide +kernel)
theorem inX3_partAt_X3 : ∀ w ∈ wsX30, w ∈ wsX3_partAt := by decide +kernel
theorem hp_X3_partAt : yX3_partAt.cls ≠ "java/lang/invoke/MethodHandle" ∧ yX3_partAt.cls ≠ "java/lang/invoke/VarHandle" ∧ (parseMethodDescriptor yX3_partAt.desc).map (fun d => d.parameters.length) = some 1 := by decide +kernel
theorem hv_X3_partAt : yX3_partAt.cls = RX3 ∧ yX3_partAt.cls ≠ "java/lang/invoke/MethodHandle" ∧ yX3_partAt.cls ≠ "java/lang/invoke/VarHandle" ∧ (parseMethodDescriptor yX3_partAt.desc).map (fun d => d.parameters.length) = some 1 := by decide +kernel
set_option maxHeartbeats 4000000 in
set_option maxRecDepth 100000 in
theorem c_X3_partAt (l : Launch) (dC : Nat → ClassId) (dI : Nat → Nat → Nat) (cI cC cZ cT cG : ClassId) (h0 h1 h2 h3 h4 h5 h6 h7 h8 : Nat) (sz : Nat) (v_blocks : Int32) (v_manys : (Nat → Int32)) (v_firsts : (Nat → Int32)) (p1 : Int32) (r : Int32) (hd : den_X3_partAt v_blocks v_manys v_firsts p1 = some r) : Met l yX3_partAt wsX3_partAt rmX3_partAt (va_Pc [.ref h0, .int p1] (preB sz (dC, dI) [(h0, .inr (3, [.ref h1, .int v_blocks, .ref h2, .ref h3, .ref h4, .ref h5, .ref h6, .ref h7, .ref h8])), (h4, .inl (cI, 16, .inl v_manys)), (h5, .inl (cI, 17, .inl v_firsts))] [(cI, .int), (cC, .char), (cZ, .boolean), (cT, .object "CassetteTones$Tape"), (cG, .object "CassetteTones$Telling")])) (va_Qi (S := Unit) (fun v _ => v = r) (fun _ t => posB (dC, dI) [(h0, .inr (3, [.ref h1, .int v_blocks, .ref h2, .ref h3, .ref h4, .ref h5, .ref h6, .ref h7, .ref h8])), (h4, .inl (cI, 16, .inl v_manys)), (h5, .inl (cI, 17, .inl v_firsts))] [(cI, .int), (cC, .char), (cZ, .boolean), (cT, .object "CassetteTones$Tape"), (cG, .object "CassetteTones$Telling")] (va_A [(h0, .inr (3, [.ref h1, .int v_blocks, .ref h2, .ref h3, .ref h4, .ref h5, .ref h6, .ref h7, .ref h8])), (h4, .inl (cI, 16, .inl v_manys)), (h5, .inl (cI, 17, .inl v_firsts))] sz) t) (va_A [(h0, .inr (3, [.ref h1, .int v_blocks, .ref h2, .ref h3, .ref h4, .ref h5, .ref h6, .ref h7, .ref h8])), (h4, .inl (cI, 16, .inl v_manys)), (h5, .inl (cI, 17, .inl v_firsts))] sz)) 0 0 (va_A [(h0, .inr (3, [.ref h1, .int v_blocks, .ref h2, .ref h3, .ref h4, .ref h5, .ref h6, .ref h7, .ref h8])), (h4, .inl (cI, 16, .inl v_manys)), (h5, .inl (cI, 17, .inl v_firsts))] sz) := by
  refine x_met_i (by decide) rfl (Nat.le_of_ble_eq_true rfl) ?_
  intro p e s m args below meth c A Q H locs ls hx hb hml hown hts hK hN hA hP hD hS hl hend
  have hown : s.vm.findClass RX3 = some m.cls := hown
  have hl : lv_has ls 5 [(0, .ref h0), (1, .int p1)] := hl
  unfold den_X3_partAt at hd
  refine lv_aload_n hx hb dX3_partAt_0 rfl (lv_at hl 0 rfl) ?_
  refine lv_iload_n hx hb dX3_partAt_1 rfl (lv_at hl 1 rfl) ?_
  obtain ⟨q1, hq1, hd⟩ := bnd_some hd
  have hPc : va_P (dC, dI) vwCl [(h0, .inr (3, [.ref h1, .int v_blocks, .ref h2, .ref h3, .ref h4, .ref h5, .ref h6, .ref h7, .ref h8])), (h5, .inl (cI, 17, .inl v_firsts))] _ := hP.sub [0, 2] rfl
  have hDc := hD.sub (ws' := [(h0, .inr (3, [.ref h1, .int v_blocks, .ref h2, .ref h3, .ref h4, .ref h5, .ref h6, .ref h7, .ref h8])), (h5, .inl (cI, 17, .inl v_firsts))]) [0, 2] (by decide) rfl
  have hFc := va_free (wc := [(h0, .inr (3, [.ref h1, .int v_blocks, .ref h2, .ref h3, .ref h4, .ref h5, .ref h6, .ref h7, .ref h8])), (h5, .inl (cI, 17, .inl v_firsts))]) hD hS hA [0, 2] rfl
  refine va_calli (va_runV (As := [.int p1]) (rest := []) ⟨hx, hb, hml, hown, hts⟩ (c_X3_blockAt l dC dI cI cC cZ cT cG h0 h1 h2 h3 h4 h5 h6 h7 h8 H.size v_blocks v_firsts p1 q1 hq1) (cwV 1 hts gX3_partAt_X3_blockAt rfl rfl rfl hv_X3_blockAt ⟨Nat.le_of_ble_eq_true rfl, Nat.le_of_ble_eq_true rfl⟩) ⟨preB_fb, va_recv hK hPc (ci := 3) (q0 := 0) rfl rfl, fun U hU hW => preB_mk hU hW hPc hK hDc hN⟩ rfl rfl hl.1 rfl (lv_room (Nat.le_of_ble_eq_true rfl)) dX3_partAt_2 ⟨Nat.zero_le _, Nat.zero_le _⟩) hS (fun q _ h => hFc q h) hFc (fun r_ u_ t H locs ht hvm hw hB hz1 hk1 hS => ?_)
  have hw : r_ = q1 := hw
  have hw := hw.symm
  subst hw
  obtain ⟨hP, hD⟩ := x_join (ws' := [(h0, .inr (3, [.ref h1, .int v_blocks, .ref h2, .ref h3, .ref h4, .ref h5, .ref h6, .ref h7, .ref h8])), (h4, .inl (cI, 16, .inl v_manys)), (h5, .inl (cI, 17, .inl v_firsts))]) hP hD [0, 2] [1] rfl rfl (by decide) (by decide) hk1 hFc ht hB [1, 0, 2] (by decide) rfl
  clear hPc hDc hFc hk1 hB ht hz1 hvm
  refine lv_istore_n (lv' := [(2, .int q1), (0, .ref h0), (1, .int p1)]) hx hb dX3_partAt_5 rfl hl (by decide) rfl (fun ls hl => ?_)
  refine lv_iload_n hx hb dX3_partAt_6 rfl (lv_at hl 2 rfl) ?_
  refine lv_aload_n hx hb dX3_partAt_7 rfl (lv_at hl 1 rfl) ?_
  refine va_get (D := (dC, dI)) (ci := 3) (v := .ref h5) (C := RX3) (T := TX3) (N := 9) hx hb hts inX3_partAt_X3 hown hK hP 0 rfl rfl 5 (by decide) (hts _ kX3_partAt_1) (fun _ h9 => h9) rfl dX3_partAt_8 ?_
  refine lv_iload_n hx hb dX3_partAt_11 rfl (lv_at hl 0 rfl) ?_
  obtain ⟨g2, hd⟩ := gd_some hd
  refine x_iald (k := q1.toNatClampNeg) hx hb hK hP 2 0 rfl rfl (inb_in g2) rfl dX3_partAt_12 ?_
  refine lv_isub hx hb dX3_partAt_13 ?_
  refine lv_istore_n (lv' := [(3, .int (p1 - (v_firsts q1.toNatClampNeg))), (2, .int q1), (0, .ref h0), (1, .int p1)]) hx hb dX3_partAt_14 rfl hl (by decide) rfl (fun ls hl => ?_)
  refine lv_aload_n hx hb dX3_partAt_15 rfl (lv_at hl 2 rfl) ?_
  refine lv_iload_n hx hb dX3_partAt_16 rfl (lv_at hl 1 rfl) ?_
  obtain ⟨q3, hq3, hd⟩ := bnd_some hd
  have hPc : va_P (dC, dI) vwCl [(h0, .inr (3, [.ref h1, .int v_blocks, .ref h2, .ref h3, .ref h4, .ref h5, .ref h6, .ref h7, .ref h8])), (h4, .inl (cI, 16, .inl v_manys))] _ := hP.sub [0, 1] rfl
  have hDc := hD.sub (ws' := [(h0, .inr (3, [.ref h1, .int v_blocks, .ref h2, .ref h3, .ref h4, .ref h5, .ref h6, .ref h7, .ref h8])), (h4, .inl (cI, 16, .inl v_manys))]) [0, 1] (by decide) rfl
  have hFc := va_free (wc := [(h0, .inr (3, [.ref h1, .int v_blocks, .ref h2, .ref h3, .ref h4, .ref h5, .ref h6, .ref h7, .ref h8])), (h4, .inl (cI, 16, .inl v_manys))]) hD hS hA [0, 1] rfl
  refine va_calli (va_runV (As := [.int q1]) (rest := []) ⟨hx, hb, hml, hown, hts⟩ (c_X3_tellingCells l dC dI cI cC cZ cT cG h0 h1 h2 h3 h4 h5 h6 h7 h8 H.size v_blocks v_manys q1 q3 hq3) (cwV 1 hts gX3_partAt_X3_tellingCells rfl rfl rfl hv_X3_tellingCells ⟨Nat.le_of_ble_eq_true rfl, Nat.le_of_ble_eq_true rfl⟩) ⟨preB_fb, va_recv hK hPc (ci := 3) (q0 := 0) rfl rfl, fun U hU hW => preB_mk hU hW hPc hK hDc hN⟩ rfl rfl hl.1 rfl (lv_room (Nat.le_of_ble_eq_true rfl)) dX3_partAt_17 ⟨Nat.zero_le _, Nat.zero_le _⟩) hS (fun q _ h => hFc q h) hFc (fun r_ u_ t H locs ht hvm hw hB hz1 hk1 hS => ?_)
  have hw : r_ = q3 := hw
  have hw := hw.symm
  subst hw
  obtain ⟨hP, hD⟩ := x_join (ws' := [(h0, .inr (3, [.ref h1, .int v_blocks, .ref h2, .ref h3, .ref h4, .ref h5, .ref h6, .ref h7, .ref h8])), (h4, .inl (cI, 16, .inl v_manys)), (h5, .inl (cI, 17, .inl v_firsts))]) hP hD [0, 1] [2] rfl rfl (by decide) (by decide) hk1 hFc ht hB [1, 2, 0] (by decide) rfl
  clear hPc hDc hFc hk1 hB ht hz1 hvm
  refine lv_istore (lv' := [(4, .int q3), (3, .int (p1 - (v_firsts q1.toNatClampNeg))), (2, .int q1), (0, .ref h0), (1, .int p1)]) hx hb dX3_partAt_20 hl (by decide) rfl (fun ls hl => ?_)
  refine lv_iload_n hx hb dX3_partAt_22 rfl (lv_at hl 1 rfl) ?_
  refine lv_iload hx hb dX3_partAt_23 (lv_at hl 0 rfl) ?_
  refine lv_icmp_ge (tgt := 30) hx hb dX3_partAt_25 (by decide) (fun c4 => ?_) (fun c4 => ?_)
  · replace hd := ite_t c4 hd
    refine lv_iload_n hx hb dX3_partAt_30 rfl (lv_at hl 1 rfl) ?_
    refine lv_iconst (v := 2) hx hb dX3_partAt_31 (by decide) ?_
    refine lv_iload hx hb dX3_partAt_32 (lv_at hl 0 rfl) ?_
    refine lv_imul hx hb dX3_partAt_34 ?_
    refine lv_icmp_ge (tgt := 42) hx hb dX3_partAt_35 (by decide) (fun c5 => ?_) (fun c5 => ?_)
    · replace hd := ite_t c5 hd
      refine lv_iconst (v := 2) hx hb dX3_partAt_42 (by decide) ?_
      cases hd
      exact hend (by rfl) hP hD hS dX3_partAt_43
    · replace hd := ite_f c5 hd
      refine lv_iconst (v := 1) hx hb dX3_partAt_38 (by decide) ?_
      refine lv_goto (tgt := 43) hx hb dX3_partAt_39 (by decide) ?_
      cases hd
      exact hend (by rfl) hP hD hS dX3_partAt_43
  · replace hd := ite_f c4 hd
    refine lv_iconst (v := 0) hx hb dX3_partAt_28 (by decide) ?_
    cases hd
    exact hend (by rfl) hP hD hS dX3_partAt_29
def rmX3_bitAt : Room := { frames := 2, cells := 0, slots := 0, locals := 46 }
theorem kX3_bitAt_1 : (Cond.fieldLink RX3 24 "CassetteTones$Tape" "firsts" "[I") ∈ wsX3_bitAt := List.mem_of_getElem? (i := 1) (by decide +kernel)
theorem kX3_bitAt_2 : (Cond.fieldLink RX3 33 "CassetteTones$Tape" "written" "[I") ∈ wsX3_bitAt := List.mem_of_getElem? (i := 2) (by decide +kernel)
theorem kX3_bitAt_3 : (Cond.fieldLink RX3 30 "CassetteTones$Tape" "bad" "[I") ∈ wsX3_bitAt := List.mem_of_getElem? (i := 3) (by decide +kernel)
theorem inX3_bitAt_X3 : ∀ w ∈ wsX30, w ∈ wsX3_bitAt := by decide +kernel
theorem hp_X3_bitAt : yX3_bitAt.cls ≠ "java/lang/invoke/MethodHandle" ∧ yX3_bitAt.cls ≠ "java/lang/invoke/VarHandle" ∧ (parseMethodDescriptor yX3_bitAt.desc).map (fun d => d.parameters.length) = some 1 := by decide +kernel
theorem hv_X3_bitAt : yX3_bitAt.cls = RX3 ∧ yX3_bitAt.cls ≠ "java/lang/invoke/MethodHandle" ∧ yX3_bitAt.cls ≠ "java/lang/invoke/VarHandle" ∧ (parseMethodDescriptor yX3_bitAt.desc).map (fun d => d.parameters.length) = some 1 := by decide +kernel
set_option maxHeartbeats 4000000 in
set_option maxRecDepth 100000 in
theorem c_X3_bitAt (l : Launch) (dC : Nat → ClassId) (dI : Nat → Nat → Nat) (cI cC cZ cT cG : ClassId) (h0 h1 h2 h3 h4 h5 h6 h7 h8 : Nat) (sz : Nat) (v_blocks : Int32) (v_manys : (Nat → Int32)) (v_firsts : (Nat → Int32)) (v_bad : (Nat → Int32)) (v_written : (Nat → Int32)) (p1 : Int32) (r : Int32) (hd : den_X3_bitAt v_blocks v_manys v_firsts v_bad v_written p1 = some r) : Met l yX3_bitAt wsX3_bitAt rmX3_bitAt (va_Pc [.ref h0, .int p1] (preB sz (dC, dI) [(h0, .inr (3, [.ref h1, .int v_blocks, .ref h2, .ref h3, .ref h4, .ref h5, .ref h6, .ref h7, .ref h8])), (h4, .inl (cI, 16, .inl v_manys)), (h5, .inl (cI, 17, .inl v_firsts)), (h7, .inl (cI, 2464, .inl v_bad)), (h8, .inl (cI, 2464, .inl v_written))] [(cI, .int), (cC, .char), (cZ, .boolean), (cT, .object "CassetteTones$Tape"), (cG, .object "CassetteTones$Telling")])) (va_Qi (S := Unit) (fun v _ => v = r) (fun _ t => posB (dC, dI) [(h0, .inr (3, [.ref h1, .int v_blocks, .ref h2, .ref h3, .ref h4, .ref h5, .ref h6, .ref h7, .ref h8])), (h4, .inl (cI, 16, .inl v_manys)), (h5, .inl (cI, 17, .inl v_firsts)), (h7, .inl (cI, 2464, .inl v_bad)), (h8, .inl (cI, 2464, .inl v_written))] [(cI, .int), (cC, .char), (cZ, .boolean), (cT, .object "CassetteTones$Tape"), (cG, .object "CassetteTones$Telling")] (va_A [(h0, .inr (3, [.ref h1, .int v_blocks, .ref h2, .ref h3, .ref h4, .ref h5, .ref h6, .ref h7, .ref h8])), (h4, .inl (cI, 16, .inl v_manys)), (h5, .inl (cI, 17, .inl v_firsts)), (h7, .inl (cI, 2464, .inl v_bad)), (h8, .inl (cI, 2464, .inl v_written))] sz) t) (va_A [(h0, .inr (3, [.ref h1, .int v_blocks, .ref h2, .ref h3, .ref h4, .ref h5, .ref h6, .ref h7, .ref h8])), (h4, .inl (cI, 16, .inl v_manys)), (h5, .inl (cI, 17, .inl v_firsts)), (h7, .inl (cI, 2464, .inl v_bad)), (h8, .inl (cI, 2464, .inl v_written))] sz)) 0 0 (va_A [(h0, .inr (3, [.ref h1, .int v_blocks, .ref h2, .ref h3, .ref h4, .ref h5, .ref h6, .ref h7, .ref h8])), (h4, .inl (cI, 16, .inl v_manys)), (h5, .inl (cI, 17, .inl v_firsts)), (h7, .inl (cI, 2464, .inl v_bad)), (h8, .inl (cI, 2464, .inl v_written))] sz) := by
  refine x_met_i (by decide) rfl (Nat.le_of_ble_eq_true rfl) ?_
  intro p e s m args below meth c A Q H locs ls hx hb hml hown hts hK hN hA hP hD hS hl hend
  have hown : s.vm.findClass RX3 = some m.cls := hown
  have hl : lv_has ls 5 [(0, .ref h0), (1, .int p1)] := hl
  unfold den_X3_bitAt at hd
  refine lv_aload_n hx hb dX3_bitAt_0 rfl (lv_at hl 0 rfl) ?_
  refine lv_iload_n hx hb dX3_bitAt_1 rfl (lv_at hl 1 rfl) ?_
  obtain ⟨q1, hq1, hd⟩ := bnd_some hd
  have hPc : va_P (dC, dI) vwCl [(h0, .inr (3, [.ref h1, .int v_blocks, .ref h2, .ref h3, .ref h4, .ref h5, .ref h6, .ref h7, .ref h8])), (h5, .inl (cI, 17, .inl v_firsts))] _ := hP.sub [0, 2] rfl
  have hDc := hD.sub (ws' := [(h0, .inr (3, [.ref h1, .int v_blocks, .ref h2, .ref h3, .ref h4, .ref h5, .ref h6, .ref h7, .ref h8])), (h5, .inl (cI, 17, .inl v_firsts))]) [0, 2] (by decide) rfl
  have hFc := va_free (wc := [(h0, .inr (3, [.ref h1, .int v_blocks, .ref h2, .ref h3, .ref h4, .ref h5, .ref h6, .ref h7, .ref h8])), (h5, .inl (cI, 17, .inl v_firsts))]) hD hS hA [0, 2] rfl
  refine va_calli (va_runV (As := [.int p1]) (rest := []) ⟨hx, hb, hml, hown, hts⟩ (c_X3_blockAt l dC dI cI cC cZ cT cG h0 h1 h2 h3 h4 h5 h6 h7 h8 H.size v_blocks v_firsts p1 q1 hq1) (cwV 1 hts gX3_bitAt_X3_blockAt rfl rfl rfl hv_X3_blockAt ⟨Nat.le_of_ble_eq_true rfl, Nat.le_of_ble_eq_true rfl⟩) ⟨preB_fb, va_recv hK hPc (ci := 3) (q0 := 0) rfl rfl, fun U hU hW => preB_mk hU hW hPc hK hDc hN⟩ rfl rfl hl.1 rfl (lv_room (Nat.le_of_ble_eq_true rfl)) dX3_bitAt_2 ⟨Nat.zero_le _, Nat.zero_le _⟩) hS (fun q _ h => hFc q h) hFc (fun r_ u_ t H locs ht hvm hw hB hz1 hk1 hS => ?_)
  have hw : r_ = q1 := hw
  have hw := hw.symm
  subst hw
  obtain ⟨hP, hD⟩ := x_join (ws' := [(h0, .inr (3, [.ref h1, .int v_blocks, .ref h2, .ref h3, .ref h4, .ref h5, .ref h6, .ref h7, .ref h8])), (h4, .inl (cI, 16, .inl v_manys)), (h5, .inl (cI, 17, .inl v_firsts)), (h7, .inl (cI, 2464, .inl v_bad)), (h8, .inl (cI, 2464, .inl v_written))]) hP hD [0, 2] [1, 3, 4] rfl rfl (by decide) (by decide) hk1 hFc ht hB [3, 0, 4, 1, 2] (by decide) rfl
  clear hPc hDc hFc hk1 hB ht hz1 hvm
  refine lv_istore_n (lv' := [(2, .int q1), (0, .ref h0), (1, .int p1)]) hx hb dX3_bitAt_5 rfl hl (by decide) rfl (fun ls hl => ?_)
  refine lv_aload_n hx hb dX3_bitAt_6 rfl (lv_at hl 1 rfl) ?_
  refine lv_iload_n hx hb dX3_bitAt_7 rfl (lv_at hl 2 rfl) ?_
  obtain ⟨q2, hq2, hd⟩ := bnd_some hd
  have hPc : va_P (dC, dI) vwCl [(h0, .inr (3, [.ref h1, .int v_blocks, .ref h2, .ref h3, .ref h4, .ref h5, .ref h6, .ref h7, .ref h8])), (h4, .inl (cI, 16, .inl v_manys)), (h5, .inl (cI, 17, .inl v_firsts))] _ := hP.sub [0, 1, 2] rfl
  have hDc := hD.sub (ws' := [(h0, .inr (3, [.ref h1, .int v_blocks, .ref h2, .ref h3, .ref h4, .ref h5, .ref h6, .ref h7, .ref h8])), (h4, .inl (cI, 16, .inl v_manys)), (h5, .inl (cI, 17, .inl v_firsts))]) [0, 1, 2] (by decide) rfl
  have hFc := va_free (wc := [(h0, .inr (3, [.ref h1, .int v_blocks, .ref h2, .ref h3, .ref h4, .ref h5, .ref h6, .ref h7, .ref h8])), (h4, .inl (cI, 16, .inl v_manys)), (h5, .inl (cI, 17, .inl v_firsts))]) hD hS hA [0, 1, 2] rfl
  refine va_calli (va_runV (As := [.int p1]) (rest := []) ⟨hx, hb, hml, hown, hts⟩ (c_X3_partAt l dC dI cI cC cZ cT cG h0 h1 h2 h3 h4 h5 h6 h7 h8 H.size v_blocks v_manys v_firsts p1 q2 hq2) (cwV 1 hts gX3_bitAt_X3_partAt rfl rfl rfl hv_X3_partAt ⟨Nat.le_of_ble_eq_true rfl, Nat.le_of_ble_eq_true rfl⟩) ⟨preB_fb, va_recv hK hPc (ci := 3) (q0 := 0) rfl rfl, fun U hU hW => preB_mk hU hW hPc hK hDc hN⟩ rfl rfl hl.1 rfl (lv_room (Nat.le_of_ble_eq_true rfl)) dX3_bitAt_8 ⟨Nat.zero_le _, Nat.zero_le _⟩) hS (fun q _ h => hFc q h) hFc (fun r_ u_ t H locs ht hvm hw hB hz1 hk1 hS => ?_)
  have hw : r_ = q2 := hw
  have hw := hw.symm
  subst hw
  obtain ⟨hP, hD⟩ := x_join (ws' := [(h0, .inr (3, [.ref h1, .int v_blocks, .ref h2, .ref h3, .ref h4, .ref h5, .ref h6, .ref h7, .ref h8])), (h4, .inl (cI, 16, .inl v_manys)), (h5, .inl (cI, 17, .inl v_firsts)), (h7, .inl (cI, 2464, .inl v_bad)), (h8, .inl (cI, 2464, .inl v_written))]) hP hD [0, 1, 2] [3, 4] rfl rfl (by decide) (by decide) hk1 hFc ht hB [2, 3, 4, 0, 1] (by decide) rfl
  clear hPc hDc hFc hk1 hB ht hz1 hvm
  refine lv_istore_n (lv' := [(3, .int q2), (2, .int q1), (0, .ref h0), (1, .int p1)]) hx hb dX3_bitAt_11 rfl hl (by decide) rfl (fun ls hl => ?_)
  refine lv_iload_n hx hb dX3_bitAt_12 rfl (lv_at hl 3 rfl) ?_
  refine lv_aload_n hx hb dX3_bitAt_13 rfl (lv_at hl 2 rfl) ?_
  refine va_get (D := (dC, dI)) (ci := 3) (v := .ref h5) (C := RX3) (T := TX3) (N := 9) hx hb hts inX3_bitAt_X3 hown hK hP 0 rfl rfl 5 (by decide) (hts _ kX3_bitAt_1) (fun _ h9 => h9) rfl dX3_bitAt_14 ?_
  refine lv_iload_n hx hb dX3_bitAt_17 rfl (lv_at hl 1 rfl) ?_
  obtain ⟨g3, hd⟩ := gd_some hd
  refine x_iald (k := q1.toNatClampNeg) hx hb hK hP 2 0 rfl rfl (inb_in g3) rfl dX3_bitAt_18 ?_
  refine lv_isub hx hb dX3_bitAt_19 ?_
  refine lv_iload_n hx hb dX3_bitAt_20 rfl (lv_at hl 0 rfl) ?_
  refine lv_aload_n hx hb dX3_bitAt_21 rfl (lv_at hl 2 rfl) ?_
  refine lv_iload_n hx hb dX3_bitAt_22 rfl (lv_at hl 1 rfl) ?_
  obtain ⟨q4, hq4, hd⟩ := bnd_some hd
  have hPc : va_P (dC, dI) vwCl [(h0, .inr (3, [.ref h1, .int v_blocks, .ref h2, .ref h3, .ref h4, .ref h5, .ref h6, .ref h7, .ref h8])), (h4, .inl (cI, 16, .inl v_manys))] _ := hP.sub [0, 1] rfl
  have hDc := hD.sub (ws' := [(h0, .inr (3, [.ref h1, .int v_blocks, .ref h2, .ref h3, .ref h4, .ref h5, .ref h6, .ref h7, .ref h8])), (h4, .inl (cI, 16, .inl v_manys))]) [0, 1] (by decide) rfl
  have hFc := va_free (wc := [(h0, .inr (3, [.ref h1, .int v_blocks, .ref h2, .ref h3, .ref h4, .ref h5, .ref h6, .ref h7, .ref h8])), (h4, .inl (cI, 16, .inl v_manys))]) hD hS hA [0, 1] rfl
  refine va_calli (va_runV (As := [.int q1]) (rest := [.int q2, .int (p1 - (v_firsts q1.toNatClampNeg))]) ⟨hx, hb, hml, hown, hts⟩ (c_X3_tellingCells l dC dI cI cC cZ cT cG h0 h1 h2 h3 h4 h5 h6 h7 h8 H.size v_blocks v_manys q1 q4 hq4) (cwV 1 hts gX3_bitAt_X3_tellingCells rfl rfl rfl hv_X3_tellingCells ⟨Nat.le_of_ble_eq_true rfl, Nat.le_of_ble_eq_true rfl⟩) ⟨preB_fb, va_recv hK hPc (ci := 3) (q0 := 0) rfl rfl, fun U hU hW => preB_mk hU hW hPc hK hDc hN⟩ rfl rfl hl.1 rfl (lv_room (Nat.le_of_ble_eq_true rfl)) dX3_bitAt_23 ⟨Nat.zero_le _, Nat.zero_le _⟩) hS (fun q _ h => hFc q h) hFc (fun r_ u_ t H locs ht hvm hw hB hz1 hk1 hS => ?_)
  have hw : r_ = q4 := hw
  have hw := hw.symm
  subst hw
  obtain ⟨hP, hD⟩ := x_join (ws' := [(h0, .inr (3, [.ref h1, .int v_blocks, .ref h2, .ref h3, .ref h4, .ref h5, .ref h6, .ref h7, .ref h8])), (h4, .inl (cI, 16, .inl v_manys)), (h5, .inl (cI, 17, .inl v_firsts)), (h7, .inl (cI, 2464, .inl v_bad)), (h8, .inl (cI, 2464, .inl v_written))]) hP hD [0, 1] [2, 3, 4] rfl rfl (by decide) (by decide) hk1 hFc ht hB [3, 4, 0, 1, 2] (by decide) rfl
  clear hPc hDc hFc hk1 hB ht hz1 hvm
  refine lv_imul hx hb dX3_bitAt_26 ?_
  refine lv_isub hx hb dX3_bitAt_27 ?_
  refine lv_topi (fun x5 ex5 => ?_)
  replace hd := nm_some ex5 hd
  refine lv_istore (lv' := [(4, .int x5), (3, .int q2), (2, .int q1), (0, .ref h0), (1, .int p1)]) hx hb dX3_bitAt_28 hl (by decide) rfl (fun ls hl => ?_)
  refine lv_iload_n hx hb dX3_bitAt_30 rfl (lv_at hl 1 rfl) ?_
  refine lv_iconst (v := 2) hx hb dX3_bitAt_31 (by decide) ?_
  refine lv_icmp_eq (tgt := 41) hx hb dX3_bitAt_32 (by decide) (fun c6 => ?_) (fun c6 => ?_)
  · replace hd := ite_t c6 hd
    refine lv_iconst (v := 0) hx hb dX3_bitAt_41 (by decide) ?_
    cases hd
    exact hend (by rfl) hP hD hS dX3_bitAt_42
  · replace hd := ite_f c6 hd
    refine lv_iload hx hb dX3_bitAt_35 (lv_at hl 0 rfl) ?_
    refine lv_iconst (v := 4) hx hb dX3_bitAt_37 (by decide) ?_
    refine lv_icmp_ge (tgt := 43) hx hb dX3_bitAt_38 (by decide) (fun c7 => ?_) (fun c7 => ?_)
    · replace hd := ite_t c7 hd
      refine lv_aload_n hx hb dX3_bitAt_43 rfl (lv_at hl 3 rfl) ?_
      refine va_get (D := (dC, dI)) (ci := 3) (v := .ref h8) (C := RX3) (T := TX3) (N := 9) hx hb hts inX3_bitAt_X3 hown hK hP 0 rfl rfl 8 (by decide) (hts _ kX3_bitAt_2) (fun _ h9 => h9) rfl dX3_bitAt_44 ?_
      refine lv_iload_n hx hb dX3_bitAt_47 rfl (lv_at hl 4 rfl) ?_
      obtain ⟨g8, hd⟩ := gd_some hd
      refine x_iald (k := p1.toNatClampNeg) hx hb hK hP 4 0 rfl rfl (inb_in g8) rfl dX3_bitAt_48 ?_
      refine lv_aload_n hx hb dX3_bitAt_49 rfl (lv_at hl 3 rfl) ?_
      refine va_get (D := (dC, dI)) (ci := 3) (v := .ref h7) (C := RX3) (T := TX3) (N := 9) hx hb hts inX3_bitAt_X3 hown hK hP 0 rfl rfl 7 (by decide) (hts _ kX3_bitAt_3) (fun _ h9 => h9) rfl dX3_bitAt_50 ?_
      refine lv_iload_n hx hb dX3_bitAt_53 rfl (lv_at hl 4 rfl) ?_
      obtain ⟨g9, hd⟩ := gd_some hd
      refine x_iald (k := p1.toNatClampNeg) hx hb hK hP 3 0 rfl rfl (inb_in g9) rfl dX3_bitAt_54 ?_
      refine lv_ixor hx hb dX3_bitAt_55 ?_
      cases hd
      exact hend (by rfl) hP hD hS dX3_bitAt_56
    · replace hd := ite_f c7 hd
      refine lv_iconst (v := 0) hx hb dX3_bitAt_41 (by decide) ?_
      cases hd
      exact hend (by rfl) hP hD hS dX3_bitAt_42
def rmX3_counterOf : Room := { frames := 0, cells := 0, slots := 0, locals := 0 }
theorem kX3_counterOf_1 : (Cond.fieldLink RX3 9 "CassetteTones$Tape" "settings" "[I") ∈ wsX3_counterOf := List.mem_of_getElem? (i := 1) (by decide +kernel)
theorem inX3_counterOf_X3 : ∀ w ∈ wsX30, w ∈ wsX3_counterOf := by decide +kernel
theorem hp_X3_counterOf : yX3_counterOf.cls ≠ "java/lang/invoke/MethodHandle" ∧ yX3_counterOf.cls ≠ "java/lang/invoke/VarHandle" ∧ (parseMethodDescriptor yX3_counterOf.desc).map (fun d => d.parameters.length) = some 1 := by decide +kernel
theorem hv_X3_counterOf : yX3_counterOf.cls = RX3 ∧ yX3_counterOf.cls ≠ "java/lang/invoke/MethodHandle" ∧ yX3_counterOf.cls ≠ "java/lang/invoke/VarHandle" ∧ (parseMethodDescriptor yX3_counterOf.desc).map (fun d => d.parameters.length) = some 1 := by decide +kernel
set_option maxHeartbeats 4000000 in
set_option maxRecDepth 100000 in
theorem c_X3_counterOf (l : Launch) (dC : Nat → ClassId) (dI : Nat → Nat → Nat) (cI cC cZ cT cG : ClassId) (h0 h1 h2 h3 h4 h5 h6 h7 h8 : Nat) (sz : Nat) (v_settings : (Nat → Int32)) (v_blocks : Int32) (p1 : Int32) (r : Int32) (hd : den_X3_counterOf v_settings p1 = some r) : Met l yX3_counterOf wsX3_counterOf rmX3_counterOf (va_Pc [.ref h0, .int p1] (preB sz (dC, dI) [(h0, .inr (3, [.ref h1, .int v_blocks, .ref h2, .ref h3, .ref h4, .ref h5, .ref h6, .ref h7, .ref h8])), (h1, .inl (cI, 3, .inl v_settings))] [(cI, .int), (cC, .char), (cZ, .boolean), (cT, .object "CassetteTones$Tape"), (cG, .object "CassetteTones$Telling")])) (va_Qi (S := Unit) (fun v _ => v = r) (fun _ t => posB (dC, dI) [(h0, .inr (3, [.ref h1, .int v_blocks, .ref h2, .ref h3, .ref h4, .ref h5, .ref h6, .ref h7, .ref h8])), (h1, .inl (cI, 3, .inl v_settings))] [(cI, .int), (cC, .char), (cZ, .boolean), (cT, .object "CassetteTones$Tape"), (cG, .object "CassetteTones$Telling")] (va_A [(h0, .inr (3, [.ref h1, .int v_blocks, .ref h2, .ref h3, .ref h4, .ref h5, .ref h6, .ref h7, .ref h8])), (h1, .inl (cI, 3, .inl v_settings))] sz) t) (va_A [(h0, .inr (3, [.ref h1, .int v_blocks, .ref h2, .ref h3, .ref h4, .ref h5, .ref h6, .ref h7, .ref h8])), (h1, .inl (cI, 3, .inl v_settings))] sz)) 0 0 (va_A [(h0, .inr (3, [.ref h1, .int v_blocks, .ref h2, .ref h3, .ref h4, .ref h5, .ref h6, .ref h7, .ref h8])), (h1, .inl (cI, 3, .inl v_settings))] sz) := by
  refine x_met_i (by decide) rfl (Nat.le_of_ble_eq_true rfl) ?_
  intro p e s m args below meth c A Q H locs ls hx hb hml hown hts hK hN hA hP hD hS hl hend
  have hown : s.vm.findClass RX3 = some m.cls := hown
  have hl : lv_has ls 2 [(0, .ref h0), (1, .int p1)] := hl
  unfold den_X3_counterOf at hd
  refine lv_iload_n hx hb dX3_counterOf_0 rfl (lv_at hl 1 rfl) ?_
  refine lv_iload_n hx hb dX3_counterOf_1 rfl (lv_at hl 1 rfl) ?_
  refine lv_aload_n hx hb dX3_counterOf_2 rfl (lv_at hl 0 rfl) ?_
  refine va_get (D := (dC, dI)) (ci := 3) (v := .ref h1) (C := RX3) (T := TX3) (N := 9) hx hb hts inX3_counterOf_X3 hown hK hP 0 rfl rfl 0 (by decide) (hts _ kX3_counterOf_1) (fun _ h9 => h9) rfl dX3_counterOf_3 ?_
  refine lv_iconst (v := 2) hx hb dX3_counterOf_6 (by decide) ?_
  refine x_iald (k := 2) hx hb hK hP 1 0 rfl rfl (inb_in (by decide)) rfl dX3_counterOf_7 ?_
  refine lv_imul hx hb dX3_counterOf_8 ?_
  refine lv_bipush (v := 100) hx hb dX3_counterOf_9 (by decide) ?_
  refine lv_idiv hx hb dX3_counterOf_11 (by decide) ?_
  refine lv_isub hx hb dX3_counterOf_12 ?_
  refine lv_sipush (v := 1000) hx hb dX3_counterOf_13 (by decide) ?_
  refine lv_irem hx hb dX3_counterOf_16 (by decide) ?_
  cases hd
  exact hend (by rfl) hP hD hS dX3_counterOf_17
def rmX3_distanceOf : Room := { frames := 1, cells := 0, slots := 0, locals := 21 }
theorem kX3_distanceOf_1 : (Cond.fieldLink RX3 24 "CassetteTones$Tape" "firsts" "[I") ∈ wsX3_distanceOf := List.mem_of_getElem? (i := 1) (by decide +kernel)
theorem kX3_distanceOf_2 : (Cond.methodLink RX3 83 Lib.Math.abs.name) ∈ wsX3_distanceOf := List.mem_of_getElem? (i := 2) (by decide +kernel)
theorem kX3_distanceOf_3 : (Cond.static Lib.Math.abs.name) ∈ wsX3_distanceOf := List.mem_of_getElem? (i := 3) (by decide +kernel)
theorem kX3_distanceOf_4 : (Cond.initialized "java/lang/Math") ∈ wsX3_distanceOf := List.mem_of_getElem? (i := 4) (by decide +kernel)
theorem kX3_distanceOf_5 : (Cond.code Lib.Math.abs.name Lib.Math.abs.code 1 (some .int)) ∈ wsX3_distanceOf := List.mem_of_getElem? (i := 5) (by decide +kernel)
theorem kX3_distanceOf_6 : (Cond.methodLink RX3 88 Lib.Math.min.name) ∈ wsX3_distanceOf := List.mem_of_getElem? (i := 6) (by decide +kernel)
theorem kX3_distanceOf_7 : (Cond.static Lib.Math.min.name) ∈ wsX3_distanceOf := List.mem_of_getElem? (i := 7) (by decide +kernel)
theorem kX3_distanceOf_8 : (Cond.code Lib.Math.min.name Lib.Math.min.code 2 (some .int)) ∈ wsX3_distanceOf := List.mem_of_getElem? (i := 8) (by decide +kernel)
theorem inX3_distanceOf_X3 : ∀ w ∈ wsX30, w ∈ wsX3_distanceOf := by decide +kernel
theorem hp_X3_distanceOf : yX3_distanceOf.cls ≠ "java/lang/invoke/MethodHandle" ∧ yX3_distanceOf.cls ≠ "java/lang/invoke/VarHandle" ∧ (parseMethodDescriptor yX3_distanceOf.desc).map (fun d => d.parameters.length) = some 2 := by decide +kernel
theorem hv_X3_distanceOf : yX3_distanceOf.cls = RX3 ∧ yX3_distanceOf.cls ≠ "java/lang/invoke/MethodHandle" ∧ yX3_distanceOf.cls ≠ "java/lang/invoke/VarHandle" ∧ (parseMethodDescriptor yX3_distanceOf.desc).map (fun d => d.parameters.length) = some 2 := by decide +kernel
set_option maxHeartbeats 4000000 in
set_option maxRecDepth 100000 in
theorem c_X3_distanceOf (l : Launch) (dC : Nat → ClassId) (dI : Nat → Nat → Nat) (cI cC cZ cT cG : ClassId) (h0 h1 h2 h3 h4 h5 h6 h7 h8 : Nat) (sz : Nat) (v_settings : (Nat → Int32)) (v_blocks : Int32) (v_firsts : (Nat → Int32)) (p1 : Int32) (p2 : Int32) (r : Int32) (hd : den_X3_distanceOf v_settings v_firsts p1 p2 = some r) : Met l yX3_distanceOf wsX3_distanceOf rmX3_distanceOf (va_Pc [.ref h0, .int p1, .int p2] (preB sz (dC, dI) [(h0, .inr (3, [.ref h1, .int v_blocks, .ref h2, .ref h3, .ref h4, .ref h5, .ref h6, .ref h7, .ref h8])), (h1, .inl (cI, 3, .inl v_settings)), (h5, .inl (cI, 17, .inl v_firsts))] [(cI, .int), (cC, .char), (cZ, .boolean), (cT, .object "CassetteTones$Tape"), (cG, .object "CassetteTones$Telling")])) (va_Qi (S := Unit) (fun v _ => v = r) (fun _ t => posB (dC, dI) [(h0, .inr (3, [.ref h1, .int v_blocks, .ref h2, .ref h3, .ref h4, .ref h5, .ref h6, .ref h7, .ref h8])), (h1, .inl (cI, 3, .inl v_settings)), (h5, .inl (cI, 17, .inl v_firsts))] [(cI, .int), (cC, .char), (cZ, .boolean), (cT, .object "CassetteTones$Tape"), (cG, .object "CassetteTones$Telling")] (va_A [(h0, .inr (3, [.ref h1, .int v_blocks, .ref h2, .ref h3, .ref h4, .ref h5, .ref h6, .ref h7, .ref h8])), (h1, .inl (cI, 3, .inl v_settings)), (h5, .inl (cI, 17, .inl v_firsts))] sz) t) (va_A [(h0, .inr (3, [.ref h1, .int v_blocks, .ref h2, .ref h3, .ref h4, .ref h5, .ref h6, .ref h7, .ref h8])), (h1, .inl (cI, 3, .inl v_settings)), (h5, .inl (cI, 17, .inl v_firsts))] sz)) 0 0 (va_A [(h0, .inr (3, [.ref h1, .int v_blocks, .ref h2, .ref h3, .ref h4, .ref h5, .ref h6, .ref h7, .ref h8])), (h1, .inl (cI, 3, .inl v_settings)), (h5, .inl (cI, 17, .inl v_firsts))] sz) := by
  refine x_met_i (by decide) rfl (Nat.le_of_ble_eq_true rfl) ?_
  intro p e s m args below meth c A Q H locs ls hx hb hml hown hts hK hN hA hP hD hS hl hend
  have hown : s.vm.findClass RX3 = some m.cls := hown
  have hl : lv_has ls 4 [(0, .ref h0), (1, .int p1), (2, .int p2)] := hl
  unfold den_X3_distanceOf at hd
  refine lv_aload_n hx hb dX3_distanceOf_0 rfl (lv_at hl 0 rfl) ?_
  refine lv_aload_n hx hb dX3_distanceOf_1 rfl (lv_at hl 0 rfl) ?_
  refine va_get (D := (dC, dI)) (ci := 3) (v := .ref h5) (C := RX3) (T := TX3) (N := 9) hx hb hts inX3_distanceOf_X3 hown hK hP 0 rfl rfl 5 (by decide) (hts _ kX3_distanceOf_1) (fun _ h9 => h9) rfl dX3_distanceOf_2 ?_
  refine lv_iload_n hx hb dX3_distanceOf_5 rfl (lv_at hl 1 rfl) ?_
  obtain ⟨g1, hd⟩ := gd_some hd
  refine x_iald (k := p1.toNatClampNeg) hx hb hK hP 2 0 rfl rfl (inb_in g1) rfl dX3_distanceOf_6 ?_
  obtain ⟨q2, hq2, hd⟩ := bnd_some hd
  have hPc : va_P (dC, dI) vwCl [(h0, .inr (3, [.ref h1, .int v_blocks, .ref h2, .ref h3, .ref h4, .ref h5, .ref h6, .ref h7, .ref h8])), (h1, .inl (cI, 3, .inl v_settings))] _ := hP.sub [0, 1] rfl
  have hDc := hD.sub (ws' := [(h0, .inr (3, [.ref h1, .int v_blocks, .ref h2, .ref h3, .ref h4, .ref h5, .ref h6, .ref h7, .ref h8])), (h1, .inl (cI, 3, .inl v_settings))]) [0, 1] (by decide) rfl
  have hFc := va_free (wc := [(h0, .inr (3, [.ref h1, .int v_blocks, .ref h2, .ref h3, .ref h4, .ref h5, .ref h6, .ref h7, .ref h8])), (h1, .inl (cI, 3, .inl v_settings))]) hD hS hA [0, 1] rfl
  refine va_calli (va_runV (As := [.int (v_firsts p1.toNatClampNeg)]) (rest := []) ⟨hx, hb, hml, hown, hts⟩ (c_X3_counterOf l dC dI cI cC cZ cT cG h0 h1 h2 h3 h4 h5 h6 h7 h8 H.size v_settings v_blocks (v_firsts p1.toNatClampNeg) q2 hq2) (cwV 1 hts gX3_distanceOf_X3_counterOf rfl rfl rfl hv_X3_counterOf ⟨Nat.le_of_ble_eq_true rfl, Nat.le_of_ble_eq_true rfl⟩) ⟨preB_fb, va_recv hK hPc (ci := 3) (q0 := 0) rfl rfl, fun U hU hW => preB_mk hU hW hPc hK hDc hN⟩ rfl rfl hl.1 rfl (lv_room (Nat.le_of_ble_eq_true rfl)) dX3_distanceOf_7 ⟨Nat.zero_le _, Nat.zero_le _⟩) hS (fun q _ h => hFc q h) hFc (fun r_ u_ t H locs ht hvm hw hB hz1 hk1 hS => ?_)
  have hw : r_ = q2 := hw
  have hw := hw.symm
  subst hw
  obtain ⟨hP, hD⟩ := x_join (ws' := [(h0, .inr (3, [.ref h1, .int v_blocks, .ref h2, .ref h3, .ref h4, .ref h5, .ref h6, .ref h7, .ref h8])), (h1, .inl (cI, 3, .inl v_settings)), (h5, .inl (cI, 17, .inl v_firsts))]) hP hD [0, 1] [2] rfl rfl (by decide) (by decide) hk1 hFc ht hB [1, 2, 0] (by decide) rfl
  clear hPc hDc hFc hk1 hB ht hz1 hvm
  refine lv_iload_n hx hb dX3_distanceOf_10 rfl (lv_at hl 2 rfl) ?_
  refine lv_isub hx hb dX3_distanceOf_11 ?_
  refine va_mabs hx hb (hml.trans hl.1.symm) hown (hts _ kX3_distanceOf_2) (hts _ kX3_distanceOf_3) (hts _ kX3_distanceOf_4) (hts _ kX3_distanceOf_5) (Nat.le_of_ble_eq_true rfl) (Nat.le_of_ble_eq_true rfl) (Nat.zero_le _) (Nat.zero_le _) dX3_distanceOf_12 ?_
  refine lv_topi (fun x3 ex3 => ?_)
  replace hd := nm_some ex3 hd
  refine lv_istore_n (lv' := [(3, .int x3), (0, .ref h0), (1, .int p1), (2, .int p2)]) hx hb dX3_distanceOf_15 rfl hl (by decide) rfl (fun ls hl => ?_)
  refine lv_iload_n hx hb dX3_distanceOf_16 rfl (lv_at hl 0 rfl) ?_
  refine lv_sipush (v := 1000) hx hb dX3_distanceOf_17 (by decide) ?_
  refine lv_iload_n hx hb dX3_distanceOf_20 rfl (lv_at hl 0 rfl) ?_
  refine lv_isub hx hb dX3_distanceOf_21 ?_
  refine va_mmin hx hb (hml.trans hl.1.symm) hown (hts _ kX3_distanceOf_6) (hts _ kX3_distanceOf_7) (hts _ kX3_distanceOf_4) (hts _ kX3_distanceOf_8) (Nat.le_of_ble_eq_true rfl) (Nat.le_of_ble_eq_true rfl) (Nat.zero_le _) (Nat.zero_le _) dX3_distanceOf_22 ?_
  refine lv_topi (fun x4 ex4 => ?_)
  replace hd := nm_some ex4 hd
  cases hd
  exact hend (by rfl) hP hD hS dX3_distanceOf_25
def rmX3_nearerBlocks : Room := { frames := 2, cells := 0, slots := 0, locals := 44 }
theorem kX3_nearerBlocks_1 : (Cond.fieldLink RX3 36 "CassetteTones$Tape" "blocks" "I") ∈ wsX3_nearerBlocks := List.mem_of_getElem? (i := 1) (by decide +kernel)
theorem inX3_nearerBlocks_X3 : ∀ w ∈ wsX30, w ∈ wsX3_nearerBlocks := by decide +kernel
theorem hp_X3_nearerBlocks : yX3_nearerBlocks.cls ≠ "java/lang/invoke/MethodHandle" ∧ yX3_nearerBlocks.cls ≠ "java/lang/invoke/VarHandle" ∧ (parseMethodDescriptor yX3_nearerBlocks.desc).map (fun d => d.parameters.length) = some 2 := by decide +kernel
theorem hv_X3_nearerBlocks : yX3_nearerBlocks.cls = RX3 ∧ yX3_nearerBlocks.cls ≠ "java/lang/invoke/MethodHandle" ∧ yX3_nearerBlocks.cls ≠ "java/lang/invoke/VarHandle" ∧ (parseMethodDescriptor yX3_nearerBlocks.desc).map (fun d => d.parameters.length) = some 2 := by decide +kernel
set_option maxHeartbeats 4000000 in
set_option maxRecDepth 100000 in
theorem c_X3_nearerBlocks (l : Launch) (dC : Nat → ClassId) (dI : Nat → Nat → Nat) (cI cC cZ cT cG : ClassId) (h0 h1 h2 h3 h4 h5 h6 h7 h8 : Nat) (sz : Nat) (v_settings : (Nat → Int32)) (v_blocks : Int32) (v_firsts : (Nat → Int32)) (p1 : Int32) (p2 : Int32) (r : Int32) (hd : den_X3_nearerBlocks v_settings v_blocks v_firsts p1 p2 = some r) : Met l yX3_nearerBlocks wsX3_nearerBlocks rmX3_nearerBlocks (va_Pc [.ref h0, .int p1, .int p2] (preB sz (dC, dI) [(h0, .inr (3, [.ref h1, .int v_blocks, .ref h2, .ref h3, .ref h4, .ref h5, .ref h6, .ref h7, .ref h8])), (h1, .inl (cI, 3, .inl v_settings)), (h5, .inl (cI, 17, .inl v_firsts))] [(cI, .int), (cC, .char), (cZ, .boolean), (cT, .object "CassetteTones$Tape"), (cG, .object "CassetteTones$Telling")])) (va_Qi (S := Unit) (fun v _ => v = r) (fun _ t => posB (dC, dI) [(h0, .inr (3, [.ref h1, .int v_blocks, .ref h2, .ref h3, .ref h4, .ref h5, .ref h6, .ref h7, .ref h8])), (h1, .inl (cI, 3, .inl v_settings)), (h5, .inl (cI, 17, .inl v_firsts))] [(cI, .int), (cC, .char), (cZ, .boolean), (cT, .object "CassetteTones$Tape"), (cG, .object "CassetteTones$Telling")] (va_A [(h0, .inr (3, [.ref h1, .int v_blocks, .ref h2, .ref h3, .ref h4, .ref h5, .ref h6, .ref h7, .ref h8])), (h1, .inl (cI, 3, .inl v_settings)), (h5, .inl (cI, 17, .inl v_firsts))] sz) t) (va_A [(h0, .inr (3, [.ref h1, .int v_blocks, .ref h2, .ref h3, .ref h4, .ref h5, .ref h6, .ref h7, .ref h8])), (h1, .inl (cI, 3, .inl v_settings)), (h5, .inl (cI, 17, .inl v_firsts))] sz)) 0 0 (va_A [(h0, .inr (3, [.ref h1, .int v_blocks, .ref h2, .ref h3, .ref h4, .ref h5, .ref h6, .ref h7, .ref h8])), (h1, .inl (cI, 3, .inl v_settings)), (h5, .inl (cI, 17, .inl v_firsts))] sz) := by
  refine x_met_i (by decide) rfl (Nat.le_of_ble_eq_true rfl) ?_
  intro p e s m args below meth c A Q H locs ls hx hb hml hown hts hK hN hA hP hD hS hl hend
  have hown : s.vm.findClass RX3 = some m.cls := hown
  have hl : lv_has ls 7 [(0, .ref h0), (1, .int p1), (2, .int p2)] := hl
  unfold den_X3_nearerBlocks at hd
  refine lv_aload_n hx hb dX3_nearerBlocks_0 rfl (lv_at hl 0 rfl) ?_
  refine lv_iload_n hx hb dX3_nearerBlocks_1 rfl (lv_at hl 1 rfl) ?_
  refine lv_iload_n hx hb dX3_nearerBlocks_2 rfl (lv_at hl 2 rfl) ?_
  obtain ⟨q1, hq1, hd⟩ := bnd_some hd
  have hPc : va_P (dC, dI) vwCl [(h0, .inr (3, [.ref h1, .int v_blocks, .ref h2, .ref h3, .ref h4, .ref h5, .ref h6, .ref h7, .ref h8])), (h1, .inl (cI, 3, .inl v_settings)), (h5, .inl (cI, 17, .inl v_firsts))] _ := hP.sub [0, 1, 2] rfl
  have hDc := hD.sub (ws' := [(h0, .inr (3, [.ref h1, .int v_blocks, .ref h2, .ref h3, .ref h4, .ref h5, .ref h6, .ref h7, .ref h8])), (h1, .inl (cI, 3, .inl v_settings)), (h5, .inl (cI, 17, .inl v_firsts))]) [0, 1, 2] (by decide) rfl
  have hFc := va_free (wc := [(h0, .inr (3, [.ref h1, .int v_blocks, .ref h2, .ref h3, .ref h4, .ref h5, .ref h6, .ref h7, .ref h8])), (h1, .inl (cI, 3, .inl v_settings)), (h5, .inl (cI, 17, .inl v_firsts))]) hD hS hA [0, 1, 2] rfl
  refine va_calli (va_runV (As := [.int p1, .int p2]) (rest := []) ⟨hx, hb, hml, hown, hts⟩ (c_X3_distanceOf l dC dI cI cC cZ cT cG h0 h1 h2 h3 h4 h5 h6 h7 h8 H.size v_settings v_blocks v_firsts p1 p2 q1 hq1) (cwV 2 hts gX3_nearerBlocks_X3_distanceOf rfl rfl rfl hv_X3_distanceOf ⟨Nat.le_of_ble_eq_true rfl, Nat.le_of_ble_eq_true rfl⟩) ⟨preB_fb, va_recv hK hPc (ci := 3) (q0 := 0) rfl rfl, fun U hU hW => preB_mk hU hW hPc hK hDc hN⟩ rfl rfl hl.1 rfl (lv_room (Nat.le_of_ble_eq_true rfl)) dX3_nearerBlocks_3 ⟨Nat.zero_le _, Nat.zero_le _⟩) hS (fun q _ h => hFc q h) hFc (fun r_ u_ t H locs ht hvm hw hB hz1 hk1 hS => ?_)
  have hw : r_ = q1 := hw
  have hw := hw.symm
  subst hw
  obtain ⟨hP, hD⟩ := x_join (ws' := [(h0, .inr (3, [.ref h1, .int v_blocks, .ref h2, .ref h3, .ref h4, .ref h5, .ref h6, .ref h7, .ref h8])), (h1, .inl (cI, 3, .inl v_settings)), (h5, .inl (cI, 17, .inl v_firsts))]) hP hD [0, 1, 2] [] rfl rfl (by decide) (by decide) hk1 hFc ht hB [0, 1, 2] (by decide) rfl
  clear hPc hDc hFc hk1 hB ht hz1 hvm
  refine lv_istore_n (lv' := [(3, .int q1), (0, .ref h0), (1, .int p1), (2, .int p2)]) hx hb dX3_nearerBlocks_6 rfl hl (by decide) rfl (fun ls hl => ?_)
  refine lv_iconst (v := 0) hx hb dX3_nearerBlocks_7 (by decide) ?_
  refine lv_istore (lv' := [(4, .int (0 : Int32)), (3, .int q1), (0, .ref h0), (1, .int p1), (2, .int p2)]) hx hb dX3_nearerBlocks_8 hl (by decide) rfl (fun ls hl => ?_)
  refine lv_iconst (v := 0) hx hb dX3_nearerBlocks_10 (by decide) ?_
  refine lv_istore (lv' := [(5, .int (0 : Int32)), (4, .int (0 : Int32)), (3, .int q1), (0, .ref h0), (1, .int p1), (2, .int p2)]) hx hb dX3_nearerBlocks_11 hl (by decide) rfl (fun ls hl => ?_)
  obtain ⟨q2, hq2, hd⟩ := bnd_some hd
  have Kq2 : ∀ (H : Heap) (locs : List Loc) (ls : Array Slot), va_P (dC, dI) vwCl [(h0, .inr (3, [.ref h1, .int v_blocks, .ref h2, .ref h3, .ref h4, .ref h5, .ref h6, .ref h7, .ref h8])), (h1, .inl (cI, 3, .inl v_settings)), (h5, .inl (cI, 17, .inl v_firsts))] H → va_D A [(h0, .inr (3, [.ref h1, .int v_blocks, .ref h2, .ref h3, .ref h4, .ref h5, .ref h6, .ref h7, .ref h8])), (h1, .inl (cI, 3, .inl v_settings)), (h5, .inl (cI, 17, .inl v_firsts))] → va_S A s.heap H locs → lv_has ls 7 [(4, .int q2)] → W p l e rmX3_nearerBlocks s m args below meth c H locs 0 0 Q (F0 m 58 ls []) := by
    intro H locs ls hP hD hS hl
    refine lv_iload hx hb dX3_nearerBlocks_58 (lv_at hl 0 rfl) ?_
    cases hd
    exact hend (by rfl) hP hD hS dX3_nearerBlocks_60
  clear hd
  have KL8 : ∀ (fu : Nat) (y4_13 : Int32) (y5_13 : Int32) (hd : den_X3_nearerBlocks_L13 p1 p2 v_settings v_blocks v_firsts q1 fu y4_13 y5_13 = some q2) (H : Heap) (locs : List Loc) (ls : Array Slot), va_P (dC, dI) vwCl [(h0, .inr (3, [.ref h1, .int v_blocks, .ref h2, .ref h3, .ref h4, .ref h5, .ref h6, .ref h7, .ref h8])), (h1, .inl (cI, 3, .inl v_settings)), (h5, .inl (cI, 17, .inl v_firsts))] H → va_D A [(h0, .inr (3, [.ref h1, .int v_blocks, .ref h2, .ref h3, .ref h4, .ref h5, .ref h6, .ref h7, .ref h8])), (h1, .inl (cI, 3, .inl v_settings)), (h5, .inl (cI, 17, .inl v_firsts))] → va_S A s.heap H locs → lv_has ls 7 [(0, .ref h0), (1, .int p1), (2, .int p2), (3, .int q1), (4, .int y4_13), (5, .int y5_13)] → W p l e rmX3_nearerBlocks s m args below meth c H locs 0 0 Q (F0 m 13 ls []) := by
    intro fu
    induction fu with
    | zero => intro y4_13 y5_13 hd; exact no_some hd
    | succ fu ih =>
      intro y4_13 y5_13 hd H locs ls hP hD hS hl
      rw [den_X3_nearerBlocks_L13] at hd
      refine lv_iload hx hb dX3_nearerBlocks_13 (lv_at hl 5 rfl) ?_
      refine lv_aload_n hx hb dX3_nearerBlocks_15 rfl (lv_at hl 0 rfl) ?_
      refine va_get (D := (dC, dI)) (ci := 3) (v := .int v_blocks) (C := RX3) (T := TX3) (N := 9) hx hb hts inX3_nearerBlocks_X3 hown hK hP 0 rfl rfl 1 (by decide) (hts _ kX3_nearerBlocks_1) (fun _ h9 => h9) rfl dX3_nearerBlocks_16 ?_
      refine lv_icmp_ge (tgt := 58) hx hb dX3_nearerBlocks_19 (by decide) (fun c3 => ?_) (fun c3 => ?_)
      · replace hd := ite_t c3 hd
        cases hd
        exact Kq2 _ _ _ hP hD hS (lv_sub hl [4] rfl)
      · replace hd := ite_f c3 hd
        refine lv_aload_n hx hb dX3_nearerBlocks_22 rfl (lv_at hl 0 rfl) ?_
        refine lv_iload hx hb dX3_nearerBlocks_23 (lv_at hl 5 rfl) ?_
        refine lv_iload_n hx hb dX3_nearerBlocks_25 rfl (lv_at hl 2 rfl) ?_
        obtain ⟨q4, hq4, hd⟩ := bnd_some hd
        have hPc : va_P (dC, dI) vwCl [(h0, .inr (3, [.ref h1, .int v_blocks, .ref h2, .ref h3, .ref h4, .ref h5, .ref h6, .ref h7, .ref h8])), (h1, .inl (cI, 3, .inl v_settings)), (h5, .inl (cI, 17, .inl v_firsts))] _ := hP.sub [0, 1, 2] rfl
        have hDc := hD.sub (ws' := [(h0, .inr (3, [.ref h1, .int v_blocks, .ref h2, .ref h3, .ref h4, .ref h5, .ref h6, .ref h7, .ref h8])), (h1, .inl (cI, 3, .inl v_settings)), (h5, .inl (cI, 17, .inl v_firsts))]) [0, 1, 2] (by decide) rfl
        have hFc := va_free (wc := [(h0, .inr (3, [.ref h1, .int v_blocks, .ref h2, .ref h3, .ref h4, .ref h5, .ref h6, .ref h7, .ref h8])), (h1, .inl (cI, 3, .inl v_settings)), (h5, .inl (cI, 17, .inl v_firsts))]) hD hS hA [0, 1, 2] rfl
        refine va_calli (va_runV (As := [.int y5_13, .int p2]) (rest := []) ⟨hx, hb, hml, hown, hts⟩ (c_X3_distanceOf l dC dI cI cC cZ cT cG h0 h1 h2 h3 h4 h5 h6 h7 h8 H.size v_settings v_blocks v_firsts y5_13 p2 q4 hq4) (cwV 2 hts gX3_nearerBlocks_X3_distanceOf rfl rfl rfl hv_X3_distanceOf ⟨Nat.le_of_ble_eq_true rfl, Nat.le_of_ble_eq_true rfl⟩) ⟨preB_fb, va_recv hK hPc (ci := 3) (q0 := 0) rfl rfl, fun U hU hW => preB_mk hU hW hPc hK hDc hN⟩ rfl rfl hl.1 rfl (lv_room (Nat.le_of_ble_eq_true rfl)) dX3_nearerBlocks_26 ⟨Nat.zero_le _, Nat.zero_le _⟩) hS (fun q _ h => hFc q h) hFc (fun r_ u_ t H locs ht hvm hw hB hz1 hk1 hS => ?_)
        have hw : r_ = q4 := hw
        have hw := hw.symm
        subst hw
        obtain ⟨hP, hD⟩ := x_join (ws' := [(h0, .inr (3, [.ref h1, .int v_blocks, .ref h2, .ref h3, .ref h4, .ref h5, .ref h6, .ref h7, .ref h8])), (h1, .inl (cI, 3, .inl v_settings)), (h5, .inl (cI, 17, .inl v_firsts))]) hP hD [0, 1, 2] [] rfl rfl (by decide) (by decide) hk1 hFc ht hB [0, 1, 2] (by decide) rfl
        clear hPc hDc hFc hk1 hB ht hz1 hvm
        refine lv_istore (lv' := [(6, .int q4), (0, .ref h0), (1, .int p1), (2, .int p2), (3, .int q1), (4, .int y4_13), (5, .int y5_13)]) hx hb dX3_nearerBlocks_29 hl (by decide) rfl (fun ls hl => ?_)
        refine lv_iload hx hb dX3_nearerBlocks_31 (lv_at hl 0 rfl) ?_
        refine lv_iload_n hx hb dX3_nearerBlocks_33 rfl (lv_at hl 4 rfl) ?_
        refine lv_icmp_lt (tgt := 49) hx hb dX3_nearerBlocks_34 (by decide) (fun c5 => ?_) (fun c5 => ?_)
        · replace hd := ite_t c5 hd
          refine lv_iinc (v := (y4_13 + (1 : Int32))) (lv' := [(4, .int (y4_13 + (1 : Int32))), (6, .int q4), (0, .ref h0), (1, .int p1), (2, .int p2), (3, .int q1), (5, .int y5_13)]) hx hb dX3_nearerBlocks_49 hl (k := 5) rfl (by first | rfl | decide) (by decide) rfl (fun ls hl => ?_)
          refine lv_iinc (v := (y5_13 + (1 : Int32))) (lv' := [(5, .int (y5_13 + (1 : Int32))), (4, .int (y4_13 + (1 : Int32))), (6, .int q4), (0, .ref h0), (1, .int p1), (2, .int p2), (3, .int q1)]) hx hb dX3_nearerBlocks_52 hl (k := 6) rfl (by first | rfl | decide) (by decide) rfl (fun ls hl => ?_)
          refine lv_goto (tgt := 13) hx hb dX3_nearerBlocks_55 (by decide) ?_
          exact ih (y4_13 + (1 : Int32)) (y5_13 + (1 : Int32)) hd _ _ _ hP hD hS (lv_sub hl [3, 4, 5, 6, 1, 0] rfl)
        · replace hd := ite_f c5 hd
          refine lv_iload hx hb dX3_nearerBlocks_37 (lv_at hl 0 rfl) ?_
          refine lv_iload_n hx hb dX3_nearerBlocks_39 rfl (lv_at hl 4 rfl) ?_
          refine lv_icmp_ne (tgt := 52) hx hb dX3_nearerBlocks_40 (by decide) (fun c6 => ?_) (fun c6 => ?_)
          · replace hd := ite_f c6 hd
            refine lv_iinc (v := (y5_13 + (1 : Int32))) (lv' := [(5, .int (y5_13 + (1 : Int32))), (6, .int q4), (0, .ref h0), (1, .int p1), (2, .int p2), (3, .int q1), (4, .int y4_13)]) hx hb dX3_nearerBlocks_52 hl (k := 6) rfl (by first | rfl | decide) (by decide) rfl (fun ls hl => ?_)
            refine lv_goto (tgt := 13) hx hb dX3_nearerBlocks_55 (by decide) ?_
            exact ih y4_13 (y5_13 + (1 : Int32)) hd _ _ _ hP hD hS (lv_sub hl [2, 3, 4, 5, 6, 0] rfl)
          · replace hd := ite_t c6 hd
            refine lv_iload hx hb dX3_nearerBlocks_43 (lv_at hl 6 rfl) ?_
            refine lv_iload_n hx hb dX3_nearerBlocks_45 rfl (lv_at hl 2 rfl) ?_
            refine lv_icmp_ge (tgt := 52) hx hb dX3_nearerBlocks_46 (by decide) (fun c7 => ?_) (fun c7 => ?_)
            · replace hd := ite_t c7 hd
              refine lv_iinc (v := (y5_13 + (1 : Int32))) (lv' := [(5, .int (y5_13 + (1 : Int32))), (6, .int q4), (0, .ref h0), (1, .int p1), (2, .int p2), (3, .int q1), (4, .int y4_13)]) hx hb dX3_nearerBlocks_52 hl (k := 6) rfl (by first | rfl | decide) (by decide) rfl (fun ls hl => ?_)
              refine lv_goto (tgt := 13) hx hb dX3_nearerBlocks_55 (by decide) ?_
              exact ih y4_13 (y5_13 + (1 : Int32)) hd _ _ _ hP hD hS (lv_sub hl [2, 3, 4, 5, 6, 0] rfl)
            · replace hd := ite_f c7 hd
              refine lv_iinc (v := (y4_13 + (1 : Int32))) (lv' := [(4, .int (y4_13 + (1 : Int32))), (6, .int q4), (0, .ref h0), (1, .int p1), (2, .int p2), (3, .int q1), (5, .int y5_13)]) hx hb dX3_nearerBlocks_49 hl (k := 5) rfl (by first | rfl | decide) (by decide) rfl (fun ls hl => ?_)
              refine lv_iinc (v := (y5_13 + (1 : Int32))) (lv' := [(5, .int (y5_13 + (1 : Int32))), (4, .int (y4_13 + (1 : Int32))), (6, .int q4), (0, .ref h0), (1, .int p1), (2, .int p2), (3, .int q1)]) hx hb dX3_nearerBlocks_52 hl (k := 6) rfl (by first | rfl | decide) (by decide) rfl (fun ls hl => ?_)
              refine lv_goto (tgt := 13) hx hb dX3_nearerBlocks_55 (by decide) ?_
              exact ih (y4_13 + (1 : Int32)) (y5_13 + (1 : Int32)) hd _ _ _ hP hD hS (lv_sub hl [3, 4, 5, 6, 1, 0] rfl)
  exact KL8 FU (0 : Int32) (0 : Int32) hq2 _ _ _ hP hD hS (lv_sub hl [3, 4, 5, 2, 1, 0] rfl)
def rmX3_depthOf : Room := { frames := 0, cells := 0, slots := 0, locals := 0 }
theorem kX3_depthOf_1 : (Cond.fieldLink RX3 18 "CassetteTones$Tape" "unders" "[I") ∈ wsX3_depthOf := List.mem_of_getElem? (i := 1) (by decide +kernel)
theorem inX3_depthOf_X3 : ∀ w ∈ wsX30, w ∈ wsX3_depthOf := by decide +kernel
theorem hp_X3_depthOf : yX3_depthOf.cls ≠ "java/lang/invoke/MethodHandle" ∧ yX3_depthOf.cls ≠ "java/lang/invoke/VarHandle" ∧ (parseMethodDescriptor yX3_depthOf.desc).map (fun d => d.parameters.length) = some 1 := by decide +kernel
theorem hv_X3_depthOf : yX3_depthOf.cls = RX3 ∧ yX3_depthOf.cls ≠ "java/lang/invoke/MethodHandle" ∧ yX3_depthOf.cls ≠ "java/lang/invoke/VarHandle" ∧ (parseMethodDescriptor yX3_depthOf.desc).map (fun d => d.parameters.length) = some 1 := by decide +kernel
set_option maxHeartbeats 4000000 in
set_option maxRecDepth 100000 in
theorem c_X3_depthOf (l : Launch) (dC : Nat → ClassId) (dI : Nat → Nat → Nat) (cI cC cZ cT cG : ClassId) (h0 h1 h2 h3 h4 h5 h6 h7 h8 : Nat) (sz : Nat) (v_blocks : Int32) (v_unders : (Nat → Int32)) (p1 : Int32) (r : Int32) (hd : den_X3_depthOf v_unders p1 = some r) : Met l yX3_depthOf wsX3_depthOf rmX3_depthOf (va_Pc [.ref h0, .int p1] (preB sz (dC, dI) [(h0, .inr (3, [.ref h1, .int v_blocks, .ref h2, .ref h3, .ref h4, .ref h5, .ref h6, .ref h7, .ref h8])), (h3, .inl (cI, 16, .inl v_unders))] [(cI, .int), (cC, .char), (cZ, .boolean), (cT, .object "CassetteTones$Tape"), (cG, .object "CassetteTones$Telling")])) (va_Qi (S := Unit) (fun v _ => v = r) (fun _ t => posB (dC, dI) [(h0, .inr (3, [.ref h1, .int v_blocks, .ref h2, .ref h3, .ref h4, .ref h5, .ref h6, .ref h7, .ref h8])), (h3, .inl (cI, 16, .inl v_unders))] [(cI, .int), (cC, .char), (cZ, .boolean), (cT, .object "CassetteTones$Tape"), (cG, .object "CassetteTones$Telling")] (va_A [(h0, .inr (3, [.ref h1, .int v_blocks, .ref h2, .ref h3, .ref h4, .ref h5, .ref h6, .ref h7, .ref h8])), (h3, .inl (cI, 16, .inl v_unders))] sz) t) (va_A [(h0, .inr (3, [.ref h1, .int v_blocks, .ref h2, .ref h3, .ref h4, .ref h5, .ref h6, .ref h7, .ref h8])), (h3, .inl (cI, 16, .inl v_unders))] sz)) 0 0 (va_A [(h0, .inr (3, [.ref h1, .int v_blocks, .ref h2, .ref h3, .ref h4, .ref h5, .ref h6, .ref h7, .ref h8])), (h3, .inl (cI, 16, .inl v_unders))] sz) := by
  refine x_met_i (by decide) rfl (Nat.le_of_ble_eq_true rfl) ?_
  intro p e s m args below meth c A Q H locs ls hx hb hml hown hts hK hN hA hP hD hS hl hend
  have hown : s.vm.findClass RX3 = some m.cls := hown
  have hl : lv_has ls 4 [(0, .ref h0), (1, .int p1)] := hl
  unfold den_X3_depthOf at hd
  refine lv_iconst (v := 0) hx hb dX3_depthOf_0 (by decide) ?_
  refine lv_istore_n (lv' := [(2, .int (0 : Int32)), (0, .ref h0), (1, .int p1)]) hx hb dX3_depthOf_1 rfl hl (by decide) rfl (fun ls hl => ?_)
  refine lv_aload_n hx hb dX3_depthOf_2 rfl (lv_at hl 1 rfl) ?_
  refine va_get (D := (dC, dI)) (ci := 3) (v := .ref h3) (C := RX3) (T := TX3) (N := 9) hx hb hts inX3_depthOf_X3 hown hK hP 0 rfl rfl 3 (by decide) (hts _ kX3_depthOf_1) (fun _ h9 => h9) rfl dX3_depthOf_3 ?_
  refine lv_iload_n hx hb dX3_depthOf_6 rfl (lv_at hl 2 rfl) ?_
  obtain ⟨g1, hd⟩ := gd_some hd
  refine x_iald (k := p1.toNatClampNeg) hx hb hK hP 1 0 rfl rfl (inb_in g1) rfl dX3_depthOf_7 ?_
  refine lv_istore_n (lv' := [(3, .int (v_unders p1.toNatClampNeg)), (2, .int (0 : Int32)), (0, .ref h0), (1, .int p1)]) hx hb dX3_depthOf_8 rfl hl (by decide) rfl (fun ls hl => ?_)
  obtain ⟨q2, hq2, hd⟩ := bnd_some hd
  have Kq2 : ∀ (H : Heap) (locs : List Loc) (ls : Array Slot), va_P (dC, dI) vwCl [(h0, .inr (3, [.ref h1, .int v_blocks, .ref h2, .ref h3, .ref h4, .ref h5, .ref h6, .ref h7, .ref h8])), (h3, .inl (cI, 16, .inl v_unders))] H → va_D A [(h0, .inr (3, [.ref h1, .int v_blocks, .ref h2, .ref h3, .ref h4, .ref h5, .ref h6, .ref h7, .ref h8])), (h3, .inl (cI, 16, .inl v_unders))] → va_S A s.heap H locs → lv_has ls 4 [(2, .int q2)] → W p l e rmX3_depthOf s m args below meth c H locs 0 0 Q (F0 m 32 ls []) := by
    intro H locs ls hP hD hS hl
    refine lv_iload_n hx hb dX3_depthOf_32 rfl (lv_at hl 0 rfl) ?_
    cases hd
    exact hend (by rfl) hP hD hS dX3_depthOf_33
  clear hd
  have KL6 : ∀ (fu : Nat) (y2_9 : Int32) (y3_9 : Int32) (hd : den_X3_depthOf_L9 v_unders fu y2_9 y3_9 = some q2) (H : Heap) (locs : List Loc) (ls : Array Slot), va_P (dC, dI) vwCl [(h0, .inr (3, [.ref h1, .int v_blocks, .ref h2, .ref h3, .ref h4, .ref h5, .ref h6, .ref h7, .ref h8])), (h3, .inl (cI, 16, .inl v_unders))] H → va_D A [(h0, .inr (3, [.ref h1, .int v_blocks, .ref h2, .ref h3, .ref h4, .ref h5, .ref h6, .ref h7, .ref h8])), (h3, .inl (cI, 16, .inl v_unders))] → va_S A s.heap H locs → lv_has ls 4 [(0, .ref h0), (2, .int y2_9), (3, .int y3_9)] → W p l e rmX3_depthOf s m args below meth c H locs 0 0 Q (F0 m 9 ls []) := by
    intro fu
    induction fu with
    | zero => intro y2_9 y3_9 hd; exact no_some hd
    | succ fu ih =>
      intro y2_9 y3_9 hd H locs ls hP hD hS hl
      rw [den_X3_depthOf_L9] at hd
      refine lv_iload_n hx hb dX3_depthOf_9 rfl (lv_at hl 2 rfl) ?_
      refine lv_if_lt (tgt := 32) hx hb dX3_depthOf_10 (by decide) (fun c3 => ?_) (fun c3 => ?_)
      · replace hd := ite_t c3 hd
        cases hd
        exact Kq2 _ _ _ hP hD hS (lv_sub hl [1] rfl)
      · replace hd := ite_f c3 hd
        refine lv_iload_n hx hb dX3_depthOf_13 rfl (lv_at hl 1 rfl) ?_
        refine lv_bipush (v := 16) hx hb dX3_depthOf_14 (by decide) ?_
        refine lv_icmp_ge (tgt := 32) hx hb dX3_depthOf_16 (by decide) (fun c4 => ?_) (fun c4 => ?_)
        · replace hd := ite_t c4 hd
          cases hd
          exact Kq2 _ _ _ hP hD hS (lv_sub hl [1] rfl)
        · replace hd := ite_f c4 hd
          refine lv_iinc (v := (y2_9 + (1 : Int32))) (lv' := [(2, .int (y2_9 + (1 : Int32))), (0, .ref h0), (3, .int y3_9)]) hx hb dX3_depthOf_19 hl (k := 1) rfl (by first | rfl | decide) (by decide) rfl (fun ls hl => ?_)
          refine lv_aload_n hx hb dX3_depthOf_22 rfl (lv_at hl 1 rfl) ?_
          refine va_get (D := (dC, dI)) (ci := 3) (v := .ref h3) (C := RX3) (T := TX3) (N := 9) hx hb hts inX3_depthOf_X3 hown hK hP 0 rfl rfl 3 (by decide) (hts _ kX3_depthOf_1) (fun _ h9 => h9) rfl dX3_depthOf_23 ?_
          refine lv_iload_n hx hb dX3_depthOf_26 rfl (lv_at hl 2 rfl) ?_
          obtain ⟨g5, hd⟩ := gd_some hd
          refine x_iald (k := y3_9.toNatClampNeg) hx hb hK hP 1 0 rfl rfl (inb_in g5) rfl dX3_depthOf_27 ?_
          refine lv_istore_n (lv' := [(3, .int (v_unders y3_9.toNatClampNeg)), (2, .int (y2_9 + (1 : Int32))), (0, .ref h0)]) hx hb dX3_depthOf_28 rfl hl (by decide) rfl (fun ls hl => ?_)
          refine lv_goto (tgt := 9) hx hb dX3_depthOf_29 (by decide) ?_
          exact ih (y2_9 + (1 : Int32)) (v_unders y3_9.toNatClampNeg) hd _ _ _ hP hD hS (lv_sub hl [2, 1, 0] rfl)
  exact KL6 FU (0 : Int32) (v_unders p1.toNatClampNeg) hq2 _ _ _ hP hD hS (lv_sub hl [2, 1, 0] rfl)
