set_option linter.unusedVariables false
def rmX0_telling : Room := { frames := 0, cells := 0, slots := 0, locals := 0 }
theorem kX0_telling_2 : (Cond.fieldLink RX0 18 "CassetteTones$BlockReader" "second" "LCassetteTones$Telling;") ∈ wsX0_telling := List.mem_of_getElem? (i := 2) (by decide +kernel)
theorem kX0_telling_1 : (Cond.fieldLink RX0 12 "CassetteTones$BlockReader" "first" "LCassetteTones$Telling;") ∈ wsX0_telling := List.mem_of_getElem? (i := 1) (by decide +kernel)
theorem inX0_telling_X0 : ∀ w ∈ wsX00, w ∈ wsX0_telling := by decide +kernel
theorem hp_X0_telling : yX0_telling.cls ≠ "java/lang/invoke/MethodHandle" ∧ yX0_telling.cls ≠ "java/lang/invoke/VarHandle" ∧ (parseMethodDescriptor yX0_telling.desc).map (fun d => d.parameters.length) = some 1 := by decide +kernel
theorem hv_X0_telling : yX0_telling.cls = RX0 ∧ yX0_telling.cls ≠ "java/lang/invoke/MethodHandle" ∧ yX0_telling.cls ≠ "java/lang/invoke/VarHandle" ∧ (parseMethodDescriptor yX0_telling.desc).map (fun d => d.parameters.length) = some 1 := by decide +kernel
set_option maxHeartbeats 4000000 in
set_option maxRecDepth 100000 in
theorem c_X0_telling (l : Launch) (dC : Nat → ClassId) (dI : Nat → Nat → Nat) (cI cC cT cL : ClassId) (h0 h1 h4 : Nat) (sz : Nat) (p1 : Int32) (v0 : Value) (hv : v0 = .null ∨ ∃ a, v0 = .ref a) (r : Int32) (hd : den_X0_telling p1 = some r) (hv_0 : r = (0 : Int32) → v0 = .ref h4) (hv_1 : r = (1 : Int32) → v0 = .ref h1) : Met l yX0_telling wsX0_telling rmX0_telling (va_Pc [.ref h0, .int p1] (preB sz (dC, dI) [(h0, .inr (0, [.ref h1, .ref h4]))] [(cI, .int), (cC, .char), (cT, .object "CassetteTones$Tape"), (cL, .long)])) (x_Qo v0 (fun t => posB (dC, dI) [(h0, .inr (0, [.ref h1, .ref h4]))] [(cI, .int), (cC, .char), (cT, .object "CassetteTones$Tape"), (cL, .long)] (va_A [(h0, .inr (0, [.ref h1, .ref h4]))] sz) t) (va_A [(h0, .inr (0, [.ref h1, .ref h4]))] sz)) 0 0 (va_A [(h0, .inr (0, [.ref h1, .ref h4]))] sz) := by
  refine x_met_o (by decide) rfl (Nat.le_of_ble_eq_true rfl) hv ?_
  intro p e s m args below meth c A Q H locs ls hx hb hml hown hts hK hN hA hP hD hS hl hend
  have hown : s.vm.findClass RX0 = some m.cls := hown
  have hl : lv_has ls 2 [(0, .ref h0), (1, .int p1)] := hl
  unfold den_X0_telling at hd
  refine lv_iload_n hx hb dX0_telling_0 rfl (lv_at hl 1 rfl) ?_
  refine lv_if_ne (tgt := 11) hx hb dX0_telling_1 (by decide) (fun c1 => ?_) (fun c1 => ?_)
  · replace hd := ite_f c1 hd
    refine lv_aload_n hx hb dX0_telling_11 rfl (lv_at hl 0 rfl) ?_
    refine va_get (D := (dC, dI)) (ci := 0) (v := .ref h4) (C := RX0) (T := TX0) (N := 2) hx hb hts inX0_telling_X0 hown hK hP 0 rfl rfl 1 (by decide) (hts _ kX0_telling_2) (fun _ h9 => h9) rfl dX0_telling_12 ?_
    cases hd
    exact hend (hv_0 rfl).symm hP hD hS dX0_telling_15
  · replace hd := ite_t c1 hd
    refine lv_aload_n hx hb dX0_telling_4 rfl (lv_at hl 0 rfl) ?_
    refine va_get (D := (dC, dI)) (ci := 0) (v := .ref h1) (C := RX0) (T := TX0) (N := 2) hx hb hts inX0_telling_X0 hown hK hP 0 rfl rfl 0 (by decide) (hts _ kX0_telling_1) (fun _ h9 => h9) rfl dX0_telling_5 ?_
    refine lv_goto (tgt := 15) hx hb dX0_telling_8 (by decide) ?_
    cases hd
    exact hend (hv_1 rfl).symm hP hD hS dX0_telling_15
def rmX5_readByte : Room := { frames := 2, cells := 0, slots := 0, locals := 42 }
theorem kX5_readByte_8 : (Cond.initialized RX4) ∈ wsX5_readByte := List.mem_of_getElem? (i := 8) (by decide +kernel)
theorem kX5_readByte_7 : (Cond.instanceMethod yX4_toldAt) ∈ wsX5_readByte := List.mem_of_getElem? (i := 7) (by decide +kernel)
theorem kX5_readByte_9 : (Cond.selects RX4 yX4_toldAt yX4_toldAt) ∈ wsX5_readByte := List.mem_of_getElem? (i := 9) (by decide +kernel)
theorem kX5_readByte_14 : (Cond.initialized RX6) ∈ wsX5_readByte := List.mem_of_getElem? (i := 14) (by decide +kernel)
theorem kX5_readByte_13 : (Cond.static yX6_valueAt) ∈ wsX5_readByte := List.mem_of_getElem? (i := 13) (by decide +kernel)
theorem kX5_readByte_1 : (Cond.methodLink RX5 39 Lib.Math.min.name) ∈ wsX5_readByte := List.mem_of_getElem? (i := 1) (by decide +kernel)
theorem kX5_readByte_2 : (Cond.static Lib.Math.min.name) ∈ wsX5_readByte := List.mem_of_getElem? (i := 2) (by decide +kernel)
theorem kX5_readByte_3 : (Cond.initialized "java/lang/Math") ∈ wsX5_readByte := List.mem_of_getElem? (i := 3) (by decide +kernel)
theorem kX5_readByte_4 : (Cond.code Lib.Math.min.name Lib.Math.min.code 2 (some .int)) ∈ wsX5_readByte := List.mem_of_getElem? (i := 4) (by decide +kernel)
theorem kX5_readByte_5 : (Cond.fieldLink RX5 9 "CassetteTones$Telling" "values" "[I") ∈ wsX5_readByte := List.mem_of_getElem? (i := 5) (by decide +kernel)
theorem kX5_readByte_16 : (Cond.static yX6_setValue) ∈ wsX5_readByte := List.mem_of_getElem? (i := 16) (by decide +kernel)
theorem kX5_readByte_6 : (Cond.fieldLink RX5 15 "CassetteTones$Telling" "wholeUpTo" "[I") ∈ wsX5_readByte := List.mem_of_getElem? (i := 6) (by decide +kernel)
theorem inX5_readByte_X4 : ∀ w ∈ wsX40, w ∈ wsX5_readByte := by decide +kernel
theorem inX5_readByte_X5 : ∀ w ∈ wsX50, w ∈ wsX5_readByte := by decide +kernel
theorem hp_X5_readByte : yX5_readByte.cls ≠ "java/lang/invoke/MethodHandle" ∧ yX5_readByte.cls ≠ "java/lang/invoke/VarHandle" ∧ (parseMethodDescriptor yX5_readByte.desc).map (fun d => d.parameters.length) = some 3 := by decide +kernel
theorem hv_X5_readByte : yX5_readByte.cls = RX5 ∧ yX5_readByte.cls ≠ "java/lang/invoke/MethodHandle" ∧ yX5_readByte.cls ≠ "java/lang/invoke/VarHandle" ∧ (parseMethodDescriptor yX5_readByte.desc).map (fun d => d.parameters.length) = some 3 := by decide +kernel
set_option maxHeartbeats 4000000 in
set_option maxRecDepth 100000 in
theorem c_X5_readByte (l : Launch) (dC : Nat → ClassId) (dI : Nat → Nat → Nat) (cI cC cT cL : ClassId) (h0 h1 h2 h3 h4 h5 h6 h7 h8 h9 h10 h11 : Nat) (sz : Nat) (v_many : Int32) (v_leaderHeard : Int32) (v_values : (Nat → Int32)) (v_wholeUpTo : (Nat → Int32)) (p1_blocks : Int32) (p1_volumes : (Nat → Int32)) (p1_bad : (Nat → Int32)) (p1_written : (Nat → Int32)) (p2 : Int32) (p3 : Int32) (r : ((Nat → Int32) × (Nat → Int32))) (hd : den_X5_readByte v_values v_wholeUpTo p1_volumes p1_bad p1_written p2 p3 = some r) : Met l yX5_readByte wsX5_readByte rmX5_readByte (va_Pc [.ref h0, .ref h3, .int p2, .int p3] (preB sz (dC, dI) [(h0, .inr (5, [.int v_many, .int v_leaderHeard, .ref h1, .ref h2])), (h1, .inl (cI, 8, .inl v_values)), (h2, .inl (cI, 8, .inl v_wholeUpTo)), (h3, .inr (4, [.ref h4, .int p1_blocks, .ref h5, .ref h6, .ref h7, .ref h8, .ref h9, .ref h10, .ref h11])), (h9, .inl (cI, 2464, .inl p1_volumes)), (h10, .inl (cI, 2464, .inl p1_bad)), (h11, .inl (cI, 2464, .inl p1_written))] [(cI, .int), (cC, .char), (cT, .object "CassetteTones$Tape"), (cL, .long)])) (va_Qv (S := Unit) (fun _ => True) (fun _ t => posB (dC, dI) [(h0, .inr (5, [.int v_many, .int v_leaderHeard, .ref h1, .ref h2])), (h1, .inl (cI, 8, .inl r.1)), (h2, .inl (cI, 8, .inl r.2)), (h3, .inr (4, [.ref h4, .int p1_blocks, .ref h5, .ref h6, .ref h7, .ref h8, .ref h9, .ref h10, .ref h11])), (h9, .inl (cI, 2464, .inl p1_volumes)), (h10, .inl (cI, 2464, .inl p1_bad)), (h11, .inl (cI, 2464, .inl p1_written))] [(cI, .int), (cC, .char), (cT, .object "CassetteTones$Tape"), (cL, .long)] (va_A [(h0, .inr (5, [.int v_many, .int v_leaderHeard, .ref h1, .ref h2])), (h1, .inl (cI, 8, .inl v_values)), (h2, .inl (cI, 8, .inl v_wholeUpTo)), (h3, .inr (4, [.ref h4, .int p1_blocks, .ref h5, .ref h6, .ref h7, .ref h8, .ref h9, .ref h10, .ref h11])), (h9, .inl (cI, 2464, .inl p1_volumes)), (h10, .inl (cI, 2464, .inl p1_bad)), (h11, .inl (cI, 2464, .inl p1_written))] sz) t) (va_A [(h0, .inr (5, [.int v_many, .int v_leaderHeard, .ref h1, .ref h2])), (h1, .inl (cI, 8, .inl v_values)), (h2, .inl (cI, 8, .inl v_wholeUpTo)), (h3, .inr (4, [.ref h4, .int p1_blocks, .ref h5, .ref h6, .ref h7, .ref h8, .ref h9, .ref h10, .ref h11])), (h9, .inl (cI, 2464, .inl p1_volumes)), (h10, .inl (cI, 2464, .inl p1_bad)), (h11, .inl (cI, 2464, .inl p1_written))] sz)) 0 0 (va_A [(h0, .inr (5, [.int v_many, .int v_leaderHeard, .ref h1, .ref h2])), (h1, .inl (cI, 8, .inl v_values)), (h2, .inl (cI, 8, .inl v_wholeUpTo)), (h3, .inr (4, [.ref h4, .int p1_blocks, .ref h5, .ref h6, .ref h7, .ref h8, .ref h9, .ref h10, .ref h11])), (h9, .inl (cI, 2464, .inl p1_volumes)), (h10, .inl (cI, 2464, .inl p1_bad)), (h11, .inl (cI, 2464, .inl p1_written))] sz) := by
  refine x_met_v (by decide) rfl (Nat.le_of_ble_eq_true rfl) ?_
  intro p e s m args below meth c A Q H locs ls hx hb hml hown hts hK hN hA hP hD hS hl hend
  have hown : s.vm.findClass RX5 = some m.cls := hown
  have hl : lv_has ls 9 [(0, .ref h0), (1, .ref h3), (2, .int p2), (3, .int p3)] := hl
  unfold den_X5_readByte at hd
  refine lv_bipush (v := 99) hx hb dX5_readByte_0 (by decide) ?_
  refine lv_istore (lv' := [(4, .int (99 : Int32)), (0, .ref h0), (1, .ref h3), (2, .int p2), (3, .int p3)]) hx hb dX5_readByte_2 hl (by decide) rfl (fun ls hl => ?_)
  refine lv_iconst (v := 0) hx hb dX5_readByte_4 (by decide) ?_
  refine lv_istore (lv' := [(5, .int (0 : Int32)), (4, .int (99 : Int32)), (0, .ref h0), (1, .ref h3), (2, .int p2), (3, .int p3)]) hx hb dX5_readByte_5 hl (by decide) rfl (fun ls hl => ?_)
  refine lv_iconst (v := 0) hx hb dX5_readByte_7 (by decide) ?_
  refine lv_istore (lv' := [(6, .int (0 : Int32)), (5, .int (0 : Int32)), (4, .int (99 : Int32)), (0, .ref h0), (1, .ref h3), (2, .int p2), (3, .int p3)]) hx hb dX5_readByte_8 hl (by decide) rfl (fun ls hl => ?_)
  refine lv_iconst (v := 0) hx hb dX5_readByte_10 (by decide) ?_
  refine lv_istore (lv' := [(7, .int (0 : Int32)), (6, .int (0 : Int32)), (5, .int (0 : Int32)), (4, .int (99 : Int32)), (0, .ref h0), (1, .ref h3), (2, .int p2), (3, .int p3)]) hx hb dX5_readByte_11 hl (by decide) rfl (fun ls hl => ?_)
  obtain ⟨q1, hq1, hd⟩ := bnd_some hd
  have Kq1 : ∀ (H : Heap) (locs : List Loc) (ls : Array Slot), va_P (dC, dI) vwCl [(h0, .inr (5, [.int v_many, .int v_leaderHeard, .ref h1, .ref h2])), (h1, .inl (cI, 8, .inl v_values)), (h2, .inl (cI, 8, .inl v_wholeUpTo)), (h3, .inr (4, [.ref h4, .int p1_blocks, .ref h5, .ref h6, .ref h7, .ref h8, .ref h9, .ref h10, .ref h11])), (h9, .inl (cI, 2464, .inl p1_volumes)), (h10, .inl (cI, 2464, .inl p1_bad)), (h11, .inl (cI, 2464, .inl p1_written))] H → va_D A [(h0, .inr (5, [.int v_many, .int v_leaderHeard, .ref h1, .ref h2])), (h1, .inl (cI, 8, .inl v_values)), (h2, .inl (cI, 8, .inl v_wholeUpTo)), (h3, .inr (4, [.ref h4, .int p1_blocks, .ref h5, .ref h6, .ref h7, .ref h8, .ref h9, .ref h10, .ref h11])), (h9, .inl (cI, 2464, .inl p1_volumes)), (h10, .inl (cI, 2464, .inl p1_bad)), (h11, .inl (cI, 2464, .inl p1_written))] → va_S A s.heap H locs → lv_has ls 9 [(0, .ref h0), (3, .int p3), (4, .int q1.1), (5, .int q1.2.1), (6, .int q1.2.2)] → W p l e rmX5_readByte s m args below meth c H locs 0 0 Q (F0 m 71 ls []) := by
    intro H locs ls hP hD hS hl
    refine lv_aload_n hx hb dX5_readByte_71 rfl (lv_at hl 0 rfl) ?_
    refine va_get (D := (dC, dI)) (ci := 5) (v := .ref h1) (C := RX5) (T := TX5) (N := 4) hx hb hts inX5_readByte_X5 hown hK hP 0 rfl rfl 2 (by decide) (hts _ kX5_readByte_5) (fun _ h9 => h9) rfl dX5_readByte_72 ?_
    refine lv_iload_n hx hb dX5_readByte_75 rfl (lv_at hl 1 rfl) ?_
    refine lv_iload hx hb dX5_readByte_76 (lv_at hl 3 rfl) ?_
    refine lv_sipush (v := 255) hx hb dX5_readByte_78 (by decide) ?_
    refine lv_iand hx hb dX5_readByte_81 ?_
    obtain ⟨g2, hd⟩ := gd_some hd
    have hPc : va_P (dC, dI) vwCl [(h1, .inl (cI, 8, .inl v_values))] _ := hP.sub [1] rfl
    have hDc := hD.sub (ws' := [(h1, .inl (cI, 8, .inl v_values))]) [1] (by decide) rfl
    have hFc := va_free (wc := [(h1, .inl (cI, 8, .inl v_values))]) hD hS hA [1] rfl
    refine va_callv (va_runSN (As := [.ref h1, .int p3, .int (q1.2.1 &&& (255 : Int32))]) (rest := []) ⟨hx, hb, hml, hown, hts⟩ (c_X6_setValue l dC dI cI cC cT cL h1 8 H.size v_values p3 (q1.2.1 &&& (255 : Int32)) (upd v_values p3.toNatClampNeg (q1.2.1 &&& (255 : Int32))) (i_X6_setValue (Nat.le_of_ble_eq_true rfl) g2 rfl)) ⟨(va_cnB 3 hts gX5_readByte_X6_setValue_n55 rfl rfl rfl (nxw_41 hN) (hts _ kX5_readByte_14) hp_X6_setValue ⟨Nat.le_of_ble_eq_true rfl, Nat.le_of_ble_eq_true rfl⟩), (hts _ kX5_readByte_16), trivial⟩ ⟨preB_fb, fun U hU hW => preB_mk hU hW hPc hK hDc hN⟩ rfl rfl hl.1 rfl (lv_room (Nat.le_of_ble_eq_true rfl)) dX5_readByte_82 ⟨Nat.zero_le _, Nat.zero_le _⟩) hS (fun q _ h => hFc q h) hFc (fun u_ t H locs ht hvm hw hB hz1 hk1 hS => ?_)
    obtain ⟨hP, hD⟩ := x_join (ws' := [(h0, .inr (5, [.int v_many, .int v_leaderHeard, .ref h1, .ref h2])), (h1, .inl (cI, 8, .inl (upd v_values p3.toNatClampNeg (q1.2.1 &&& (255 : Int32))))), (h2, .inl (cI, 8, .inl v_wholeUpTo)), (h3, .inr (4, [.ref h4, .int p1_blocks, .ref h5, .ref h6, .ref h7, .ref h8, .ref h9, .ref h10, .ref h11])), (h9, .inl (cI, 2464, .inl p1_volumes)), (h10, .inl (cI, 2464, .inl p1_bad)), (h11, .inl (cI, 2464, .inl p1_written))]) hP hD [1] [0, 2, 3, 4, 5, 6] rfl rfl (by decide) (by decide) hk1 hFc ht hB [0, 6, 1, 2, 3, 4, 5] (by decide) rfl
    clear hPc hDc hFc hk1 hB ht hz1 hvm
    refine lv_iload hx hb dX5_readByte_85 (lv_at hl 4 rfl) ?_
    refine lv_iconst (v := 1) hx hb dX5_readByte_87 (by decide) ?_
    refine lv_iand hx hb dX5_readByte_88 ?_
    obtain ⟨q3, hq3, hd⟩ := bnd_some hd
    have Kq3 : ∀ (H : Heap) (locs : List Loc) (ls : Array Slot), va_P (dC, dI) vwCl [(h0, .inr (5, [.int v_many, .int v_leaderHeard, .ref h1, .ref h2])), (h1, .inl (cI, 8, .inl (upd v_values p3.toNatClampNeg (q1.2.1 &&& (255 : Int32))))), (h2, .inl (cI, 8, .inl v_wholeUpTo)), (h3, .inr (4, [.ref h4, .int p1_blocks, .ref h5, .ref h6, .ref h7, .ref h8, .ref h9, .ref h10, .ref h11])), (h9, .inl (cI, 2464, .inl p1_volumes)), (h10, .inl (cI, 2464, .inl p1_bad)), (h11, .inl (cI, 2464, .inl p1_written))] H → va_D A [(h0, .inr (5, [.int v_many, .int v_leaderHeard, .ref h1, .ref h2])), (h1, .inl (cI, 8, .inl (upd v_values p3.toNatClampNeg (q1.2.1 &&& (255 : Int32))))), (h2, .inl (cI, 8, .inl v_wholeUpTo)), (h3, .inr (4, [.ref h4, .int p1_blocks, .ref h5, .ref h6, .ref h7, .ref h8, .ref h9, .ref h10, .ref h11])), (h9, .inl (cI, 2464, .inl p1_volumes)), (h10, .inl (cI, 2464, .inl p1_bad)), (h11, .inl (cI, 2464, .inl p1_written))] → va_S A s.heap H locs → lv_has ls 9 [(0, .ref h0), (3, .int p3), (4, .int q1.1)] → W p l e rmX5_readByte s m args below meth c H locs 0 0 Q (F0 m 97 ls [.int q3]) := by
      intro H locs ls hP hD hS hl
      refine lv_istore (lv' := [(7, .int q3), (0, .ref h0), (3, .int p3), (4, .int q1.1)]) hx hb dX5_readByte_97 hl (by decide) rfl (fun ls hl => ?_)
      refine lv_aload_n hx hb dX5_readByte_99 rfl (lv_at hl 1 rfl) ?_
      refine va_get (D := (dC, dI)) (ci := 5) (v := .ref h2) (C := RX5) (T := TX5) (N := 4) hx hb hts inX5_readByte_X5 hown hK hP 0 rfl rfl 3 (by decide) (hts _ kX5_readByte_6) (fun _ h9 => h9) rfl dX5_readByte_100 ?_
      refine lv_iload_n hx hb dX5_readByte_103 rfl (lv_at hl 2 rfl) ?_
      refine lv_iload hx hb dX5_readByte_104 (lv_at hl 0 rfl) ?_
      obtain ⟨q4, hq4, hd⟩ := bnd_some hd
      have Kq4 : ∀ (H : Heap) (locs : List Loc) (ls : Array Slot), va_P (dC, dI) vwCl [(h0, .inr (5, [.int v_many, .int v_leaderHeard, .ref h1, .ref h2])), (h1, .inl (cI, 8, .inl (upd v_values p3.toNatClampNeg (q1.2.1 &&& (255 : Int32))))), (h2, .inl (cI, 8, .inl v_wholeUpTo)), (h3, .inr (4, [.ref h4, .int p1_blocks, .ref h5, .ref h6, .ref h7, .ref h8, .ref h9, .ref h10, .ref h11])), (h9, .inl (cI, 2464, .inl p1_volumes)), (h10, .inl (cI, 2464, .inl p1_bad)), (h11, .inl (cI, 2464, .inl p1_written))] H → va_D A [(h0, .inr (5, [.int v_many, .int v_leaderHeard, .ref h1, .ref h2])), (h1, .inl (cI, 8, .inl (upd v_values p3.toNatClampNeg (q1.2.1 &&& (255 : Int32))))), (h2, .inl (cI, 8, .inl v_wholeUpTo)), (h3, .inr (4, [.ref h4, .int p1_blocks, .ref h5, .ref h6, .ref h7, .ref h8, .ref h9, .ref h10, .ref h11])), (h9, .inl (cI, 2464, .inl p1_volumes)), (h10, .inl (cI, 2464, .inl p1_bad)), (h11, .inl (cI, 2464, .inl p1_written))] → va_S A s.heap H locs → lv_has ls 9 [] → W p l e rmX5_readByte s m args below meth c H locs 0 0 Q (F0 m 115 ls [.int q4, .int p3, .ref h2]) := by
        intro H locs ls hP hD hS hl
        obtain ⟨g5, hd⟩ := gd_some hd
        have hPc : va_P (dC, dI) vwCl [(h2, .inl (cI, 8, .inl v_wholeUpTo))] _ := hP.sub [2] rfl
        have hDc := hD.sub (ws' := [(h2, .inl (cI, 8, .inl v_wholeUpTo))]) [2] (by decide) rfl
        have hFc := va_free (wc := [(h2, .inl (cI, 8, .inl v_wholeUpTo))]) hD hS hA [2] rfl
        refine va_callv (va_runSN (As := [.ref h2, .int p3, .int q4]) (rest := []) ⟨hx, hb, hml, hown, hts⟩ (c_X6_setValue l dC dI cI cC cT cL h2 8 H.size v_wholeUpTo p3 q4 (upd v_wholeUpTo p3.toNatClampNeg q4) (i_X6_setValue (Nat.le_of_ble_eq_true rfl) g5 rfl)) ⟨(va_cnB 3 hts gX5_readByte_X6_setValue_n55 rfl rfl rfl (nxw_41 hN) (hts _ kX5_readByte_14) hp_X6_setValue ⟨Nat.le_of_ble_eq_true rfl, Nat.le_of_ble_eq_true rfl⟩), (hts _ kX5_readByte_16), trivial⟩ ⟨preB_fb, fun U hU hW => preB_mk hU hW hPc hK hDc hN⟩ rfl rfl hl.1 rfl (lv_room (Nat.le_of_ble_eq_true rfl)) dX5_readByte_115 ⟨Nat.zero_le _, Nat.zero_le _⟩) hS (fun q _ h => hFc q h) hFc (fun u_ t H locs ht hvm hw hB hz1 hk1 hS => ?_)
        obtain ⟨hP, hD⟩ := x_join (ws' := [(h0, .inr (5, [.int v_many, .int v_leaderHeard, .ref h1, .ref h2])), (h1, .inl (cI, 8, .inl (upd v_values p3.toNatClampNeg (q1.2.1 &&& (255 : Int32))))), (h2, .inl (cI, 8, .inl (upd v_wholeUpTo p3.toNatClampNeg q4))), (h3, .inr (4, [.ref h4, .int p1_blocks, .ref h5, .ref h6, .ref h7, .ref h8, .ref h9, .ref h10, .ref h11])), (h9, .inl (cI, 2464, .inl p1_volumes)), (h10, .inl (cI, 2464, .inl p1_bad)), (h11, .inl (cI, 2464, .inl p1_written))]) hP hD [2] [0, 1, 3, 4, 5, 6] rfl rfl (by decide) (by decide) hk1 hFc ht hB [0, 1, 6, 2, 3, 4, 5] (by decide) rfl
        clear hPc hDc hFc hk1 hB ht hz1 hvm
        cases hd
        exact hend hP hD hS dX5_readByte_118
      replace hd := hq4
      clear hq4
      refine lv_if_eq (tgt := 114) hx hb dX5_readByte_106 (by decide) (fun c6 => ?_) (fun c6 => ?_)
      · replace hd := ite_t c6 hd
        refine lv_iconst (v := -1) hx hb dX5_readByte_114 (by decide) ?_
        cases hd
        exact Kq4 _ _ _ hP hD hS (lv_sub hl [] rfl)
      · replace hd := ite_f c6 hd
        refine lv_iload hx hb dX5_readByte_109 (lv_at hl 3 rfl) ?_
        refine lv_goto (tgt := 115) hx hb dX5_readByte_111 (by decide) ?_
        cases hd
        exact Kq4 _ _ _ hP hD hS (lv_sub hl [] rfl)
    replace hd := hq3
    clear hq3
    refine lv_if_ne (tgt := 96) hx hb dX5_readByte_89 (by decide) (fun c7 => ?_) (fun c7 => ?_)
    · replace hd := ite_f c7 hd
      refine lv_iconst (v := 0) hx hb dX5_readByte_96 (by decide) ?_
      cases hd
      exact Kq3 _ _ _ hP hD hS (lv_sub hl [0, 1, 2] rfl)
    · replace hd := ite_t c7 hd
      refine lv_iconst (v := 1) hx hb dX5_readByte_92 (by decide) ?_
      refine lv_goto (tgt := 97) hx hb dX5_readByte_93 (by decide) ?_
      cases hd
      exact Kq3 _ _ _ hP hD hS (lv_sub hl [0, 1, 2] rfl)
  clear hd
  have KL14 : ∀ (fu : Nat) (y4_13 : Int32) (y5_13 : Int32) (y6_13 : Int32) (y7_13 : Int32) (hd : den_X5_readByte_L13 p2 p1_volumes p1_bad p1_written fu y4_13 y5_13 y6_13 y7_13 = some q1) (H : Heap) (locs : List Loc) (ls : Array Slot), va_P (dC, dI) vwCl [(h0, .inr (5, [.int v_many, .int v_leaderHeard, .ref h1, .ref h2])), (h1, .inl (cI, 8, .inl v_values)), (h2, .inl (cI, 8, .inl v_wholeUpTo)), (h3, .inr (4, [.ref h4, .int p1_blocks, .ref h5, .ref h6, .ref h7, .ref h8, .ref h9, .ref h10, .ref h11])), (h9, .inl (cI, 2464, .inl p1_volumes)), (h10, .inl (cI, 2464, .inl p1_bad)), (h11, .inl (cI, 2464, .inl p1_written))] H → va_D A [(h0, .inr (5, [.int v_many, .int v_leaderHeard, .ref h1, .ref h2])), (h1, .inl (cI, 8, .inl v_values)), (h2, .inl (cI, 8, .inl v_wholeUpTo)), (h3, .inr (4, [.ref h4, .int p1_blocks, .ref h5, .ref h6, .ref h7, .ref h8, .ref h9, .ref h10, .ref h11])), (h9, .inl (cI, 2464, .inl p1_volumes)), (h10, .inl (cI, 2464, .inl p1_bad)), (h11, .inl (cI, 2464, .inl p1_written))] → va_S A s.heap H locs → lv_has ls 9 [(0, .ref h0), (1, .ref h3), (2, .int p2), (3, .int p3), (4, .int y4_13), (5, .int y5_13), (6, .int y6_13), (7, .int y7_13)] → W p l e rmX5_readByte s m args below meth c H locs 0 0 Q (F0 m 13 ls []) := by
    intro fu
    induction fu with
    | zero => intro y4_13 y5_13 y6_13 y7_13 hd; exact no_some hd
    | succ fu ih =>
      intro y4_13 y5_13 y6_13 y7_13 hd H locs ls hP hD hS hl
      rw [den_X5_readByte_L13] at hd
      refine lv_iload hx hb dX5_readByte_13 (lv_at hl 7 rfl) ?_
      refine lv_bipush (v := 9) hx hb dX5_readByte_15 (by decide) ?_
      refine lv_icmp_ge (tgt := 71) hx hb dX5_readByte_17 (by decide) (fun c8 => ?_) (fun c8 => ?_)
      · replace hd := ite_t c8 hd
        cases hd
        exact Kq1 _ _ _ hP hD hS (lv_sub hl [0, 3, 4, 5, 6] rfl)
      · replace hd := ite_f c8 hd
        refine lv_aload_n hx hb dX5_readByte_20 rfl (lv_at hl 1 rfl) ?_
        refine lv_iload_n hx hb dX5_readByte_21 rfl (lv_at hl 2 rfl) ?_
        refine lv_iload hx hb dX5_readByte_22 (lv_at hl 7 rfl) ?_
        refine lv_iadd hx hb dX5_readByte_24 ?_
        obtain ⟨g9, hd⟩ := gd_some hd
        obtain ⟨g10, hd⟩ := gd_some hd
        have hPc : va_P (dC, dI) vwCl [(h3, .inr (4, [.ref h4, .int p1_blocks, .ref h5, .ref h6, .ref h7, .ref h8, .ref h9, .ref h10, .ref h11])), (h10, .inl (cI, 2464, .inl p1_bad)), (h11, .inl (cI, 2464, .inl p1_written))] _ := hP.sub [3, 5, 6] rfl
        have hDc := hD.sub (ws' := [(h3, .inr (4, [.ref h4, .int p1_blocks, .ref h5, .ref h6, .ref h7, .ref h8, .ref h9, .ref h10, .ref h11])), (h10, .inl (cI, 2464, .inl p1_bad)), (h11, .inl (cI, 2464, .inl p1_written))]) [3, 5, 6] (by decide) rfl
        have hFc := va_free (wc := [(h3, .inr (4, [.ref h4, .int p1_blocks, .ref h5, .ref h6, .ref h7, .ref h8, .ref h9, .ref h10, .ref h11])), (h10, .inl (cI, 2464, .inl p1_bad)), (h11, .inl (cI, 2464, .inl p1_written))]) hD hS hA [3, 5, 6] rfl
        refine va_calli (va_runVN (As := [.int (p2 + y7_13)]) (rest := []) ⟨hx, hb, hml, hown, hts⟩ (c_X4_toldAt l dC dI cI cC cT cL h3 h4 h5 h6 h7 h8 h9 h10 h11 H.size p1_blocks p1_bad p1_written (p2 + y7_13) ((p1_written (p2 + y7_13).toNatClampNeg) ^^^ (p1_bad (p2 + y7_13).toNatClampNeg)) (i_X4_toldAt g9 rfl)) ⟨(va_cnB 1 hts gX5_readByte_X4_toldAt_n51 rfl rfl rfl (nxw_40 hN) (hts _ kX5_readByte_8) hp_X4_toldAt ⟨Nat.le_of_ble_eq_true rfl, Nat.le_of_ble_eq_true rfl⟩), (hts _ kX5_readByte_7), (hts _ kX5_readByte_9)⟩ ⟨preB_fb, va_recv hK hPc (ci := 4) (q0 := 0) rfl rfl, fun U hU hW => preB_mk hU hW hPc hK hDc hN⟩ rfl rfl hl.1 rfl (lv_room (Nat.le_of_ble_eq_true rfl)) dX5_readByte_25 ⟨Nat.zero_le _, Nat.zero_le _⟩) hS (fun q _ h => hFc q h) hFc (fun r_ u_ t H locs ht hvm hw hB hz1 hk1 hS => ?_)
        have hw : r_ = ((p1_written (p2 + y7_13).toNatClampNeg) ^^^ (p1_bad (p2 + y7_13).toNatClampNeg)) := hw
        have hw := hw.symm
        subst hw
        obtain ⟨hP, hD⟩ := x_join (ws' := [(h0, .inr (5, [.int v_many, .int v_leaderHeard, .ref h1, .ref h2])), (h1, .inl (cI, 8, .inl v_values)), (h2, .inl (cI, 8, .inl v_wholeUpTo)), (h3, .inr (4, [.ref h4, .int p1_blocks, .ref h5, .ref h6, .ref h7, .ref h8, .ref h9, .ref h10, .ref h11])), (h9, .inl (cI, 2464, .inl p1_volumes)), (h10, .inl (cI, 2464, .inl p1_bad)), (h11, .inl (cI, 2464, .inl p1_written))]) hP hD [3, 5, 6] [0, 1, 2, 4] rfl rfl (by decide) (by decide) hk1 hFc ht hB [0, 1, 2, 4, 3, 5, 6] (by decide) rfl
        clear hPc hDc hFc hk1 hB ht hz1 hvm
        refine lv_topi (fun x11 ex11 => ?_)
        replace hd := nm_some ex11 hd
        refine lv_istore (lv' := [(8, .int x11), (0, .ref h0), (1, .ref h3), (2, .int p2), (3, .int p3), (4, .int y4_13), (5, .int y5_13), (6, .int y6_13), (7, .int y7_13)]) hx hb dX5_readByte_28 hl (by decide) rfl (fun ls hl => ?_)
        refine lv_iload hx hb dX5_readByte_30 (lv_at hl 5 rfl) ?_
        refine lv_aload_n hx hb dX5_readByte_32 rfl (lv_at hl 2 rfl) ?_
        refine va_getN (D := (dC, dI)) (ci := 4) (v := .ref h9) (C := RX4) (T := TX4) (N := 9) hx hb hts inX5_readByte_X4 hown hK hP 3 rfl rfl 6 (by decide) (nx_6 hN) (fun _ h9 => h9) rfl dX5_readByte_33 ?_
        refine lv_iload_n hx hb dX5_readByte_36 rfl (lv_at hl 3 rfl) ?_
        refine lv_iload hx hb dX5_readByte_37 (lv_at hl 8 rfl) ?_
        refine lv_iadd hx hb dX5_readByte_39 ?_
        obtain ⟨g12, hd⟩ := gd_some hd
        have hPc : va_P (dC, dI) vwCl [(h9, .inl (cI, 2464, .inl p1_volumes))] _ := hP.sub [4] rfl
        have hDc := hD.sub (ws' := [(h9, .inl (cI, 2464, .inl p1_volumes))]) [4] (by decide) rfl
        have hFc := va_free (wc := [(h9, .inl (cI, 2464, .inl p1_volumes))]) hD hS hA [4] rfl
        refine va_calli (va_runSN (As := [.ref h9, .int (p2 + y7_13)]) (rest := [.int y4_13]) ⟨hx, hb, hml, hown, hts⟩ (c_X6_valueAt l dC dI cI cC cT cL h9 2464 H.size p1_volumes (p2 + y7_13) (p1_volumes (p2 + y7_13).toNatClampNeg) (i_X6_valueAt (Nat.le_of_ble_eq_true rfl) g12 rfl)) ⟨(va_cnB 2 hts gX5_readByte_X6_valueAt_n35 rfl rfl rfl (nxw_39 hN) (hts _ kX5_readByte_14) hp_X6_valueAt ⟨Nat.le_of_ble_eq_true rfl, Nat.le_of_ble_eq_true rfl⟩), (hts _ kX5_readByte_13), trivial⟩ ⟨preB_fb, fun U hU hW => preB_mk hU hW hPc hK hDc hN⟩ rfl rfl hl.1 rfl (lv_room (Nat.le_of_ble_eq_true rfl)) dX5_readByte_40 ⟨Nat.zero_le _, Nat.zero_le _⟩) hS (fun q _ h => hFc q h) hFc (fun r_ u_ t H locs ht hvm hw hB hz1 hk1 hS => ?_)
        have hw : r_ = (p1_volumes (p2 + y7_13).toNatClampNeg) := hw
        have hw := hw.symm
        subst hw
        obtain ⟨hP, hD⟩ := x_join (ws' := [(h0, .inr (5, [.int v_many, .int v_leaderHeard, .ref h1, .ref h2])), (h1, .inl (cI, 8, .inl v_values)), (h2, .inl (cI, 8, .inl v_wholeUpTo)), (h3, .inr (4, [.ref h4, .int p1_blocks, .ref h5, .ref h6, .ref h7, .ref h8, .ref h9, .ref h10, .ref h11])), (h9, .inl (cI, 2464, .inl p1_volumes)), (h10, .inl (cI, 2464, .inl p1_bad)), (h11, .inl (cI, 2464, .inl p1_written))]) hP hD [4] [0, 1, 2, 3, 5, 6] rfl rfl (by decide) (by decide) hk1 hFc ht hB [0, 1, 2, 3, 6, 4, 5] (by decide) rfl
        clear hPc hDc hFc hk1 hB ht hz1 hvm
        refine va_mmin hx hb (hml.trans hl.1.symm) hown (hts _ kX5_readByte_1) (hts _ kX5_readByte_2) (hts _ kX5_readByte_3) (hts _ kX5_readByte_4) (Nat.le_of_ble_eq_true rfl) (Nat.le_of_ble_eq_true rfl) (Nat.zero_le _) (Nat.zero_le _) dX5_readByte_43 ?_
        refine lv_topi (fun x13 ex13 => ?_)
        replace hd := nm_some ex13 hd
        refine lv_istore (lv' := [(4, .int x13), (8, .int x11), (0, .ref h0), (1, .ref h3), (2, .int p2), (3, .int p3), (5, .int y5_13), (6, .int y6_13), (7, .int y7_13)]) hx hb dX5_readByte_46 hl (by decide) rfl (fun ls hl => ?_)
        refine lv_iload hx hb dX5_readByte_48 (lv_at hl 6 rfl) ?_
        refine lv_iload hx hb dX5_readByte_50 (lv_at hl 1 rfl) ?_
        refine lv_iload hx hb dX5_readByte_52 (lv_at hl 8 rfl) ?_
        refine lv_ishl hx hb dX5_readByte_54 ?_
        refine lv_ior hx hb dX5_readByte_55 ?_
        refine lv_istore (lv' := [(5, .int (y5_13 ||| (x11 <<< (y7_13 &&& 31)))), (4, .int x13), (8, .int x11), (0, .ref h0), (1, .ref h3), (2, .int p2), (3, .int p3), (6, .int y6_13), (7, .int y7_13)]) hx hb dX5_readByte_56 hl (by decide) rfl (fun ls hl => ?_)
        refine lv_iload hx hb dX5_readByte_58 (lv_at hl 7 rfl) ?_
        refine lv_iload hx hb dX5_readByte_60 (lv_at hl 2 rfl) ?_
        refine lv_iadd hx hb dX5_readByte_62 ?_
        refine lv_istore (lv' := [(6, .int (y6_13 + x11)), (5, .int (y5_13 ||| (x11 <<< (y7_13 &&& 31)))), (4, .int x13), (8, .int x11), (0, .ref h0), (1, .ref h3), (2, .int p2), (3, .int p3), (7, .int y7_13)]) hx hb dX5_readByte_63 hl (by decide) rfl (fun ls hl => ?_)
        refine lv_iinc (v := (y7_13 + (1 : Int32))) (lv' := [(7, .int (y7_13 + (1 : Int32))), (6, .int (y6_13 + x11)), (5, .int (y5_13 ||| (x11 <<< (y7_13 &&& 31)))), (4, .int x13), (8, .int x11), (0, .ref h0), (1, .ref h3), (2, .int p2), (3, .int p3)]) hx hb dX5_readByte_65 hl (k := 8) rfl (by first | rfl | decide) (by decide) rfl (fun ls hl => ?_)
        refine lv_goto (tgt := 13) hx hb dX5_readByte_68 (by decide) ?_
        exact ih x13 (y5_13 ||| (x11 <<< (y7_13 &&& 31))) (y6_13 + x11) (y7_13 + (1 : Int32)) hd _ _ _ hP hD hS (lv_sub hl [5, 6, 7, 8, 3, 2, 1, 0] rfl)
  exact KL14 FU (99 : Int32) (0 : Int32) (0 : Int32) (0 : Int32) hq1 _ _ _ hP hD hS (lv_sub hl [4, 5, 6, 7, 3, 2, 1, 0] rfl)
def rmX5_readLeader : Room := { frames := 1, cells := 0, slots := 0, locals := 21 }
theorem kX5_readLeader_10 : (Cond.initialized RX6) ∈ wsX5_readLeader := List.mem_of_getElem? (i := 10) (by decide +kernel)
theorem kX5_readLeader_9 : (Cond.static yX6_valueAt) ∈ wsX5_readLeader := List.mem_of_getElem? (i := 9) (by decide +kernel)
theorem kX5_readLeader_1 : (Cond.methodLink RX5 39 Lib.Math.min.name) ∈ wsX5_readLeader := List.mem_of_getElem? (i := 1) (by decide +kernel)
theorem kX5_readLeader_2 : (Cond.static Lib.Math.min.name) ∈ wsX5_readLeader := List.mem_of_getElem? (i := 2) (by decide +kernel)
theorem kX5_readLeader_3 : (Cond.initialized "java/lang/Math") ∈ wsX5_readLeader := List.mem_of_getElem? (i := 3) (by decide +kernel)
theorem kX5_readLeader_4 : (Cond.code Lib.Math.min.name Lib.Math.min.code 2 (some .int)) ∈ wsX5_readLeader := List.mem_of_getElem? (i := 4) (by decide +kernel)
theorem kX5_readLeader_5 : (Cond.methodLink RX5 45 Lib.Math.max.name) ∈ wsX5_readLeader := List.mem_of_getElem? (i := 5) (by decide +kernel)
theorem kX5_readLeader_6 : (Cond.static Lib.Math.max.name) ∈ wsX5_readLeader := List.mem_of_getElem? (i := 6) (by decide +kernel)
theorem kX5_readLeader_7 : (Cond.code Lib.Math.max.name Lib.Math.max.code 2 (some .int)) ∈ wsX5_readLeader := List.mem_of_getElem? (i := 7) (by decide +kernel)
theorem kX5_readLeader_8 : (Cond.fieldLink RX5 48 "CassetteTones$Telling" "leaderHeard" "I") ∈ wsX5_readLeader := List.mem_of_getElem? (i := 8) (by decide +kernel)
theorem inX5_readLeader_X4 : ∀ w ∈ wsX40, w ∈ wsX5_readLeader := by decide +kernel
theorem inX5_readLeader_X5 : ∀ w ∈ wsX50, w ∈ wsX5_readLeader := by decide +kernel
theorem hp_X5_readLeader : yX5_readLeader.cls ≠ "java/lang/invoke/MethodHandle" ∧ yX5_readLeader.cls ≠ "java/lang/invoke/VarHandle" ∧ (parseMethodDescriptor yX5_readLeader.desc).map (fun d => d.parameters.length) = some 2 := by decide +kernel
theorem hv_X5_readLeader : yX5_readLeader.cls = RX5 ∧ yX5_readLeader.cls ≠ "java/lang/invoke/MethodHandle" ∧ yX5_readLeader.cls ≠ "java/lang/invoke/VarHandle" ∧ (parseMethodDescriptor yX5_readLeader.desc).map (fun d => d.parameters.length) = some 2 := by decide +kernel
set_option maxHeartbeats 4000000 in
set_option maxRecDepth 100000 in
theorem c_X5_readLeader (l : Launch) (dC : Nat → ClassId) (dI : Nat → Nat → Nat) (cI cC cT cL : ClassId) (h0 h1 h2 h3 h4 h5 h6 h7 h8 h9 h10 h11 : Nat) (sz : Nat) (v_many : Int32) (v_leaderHeard : Int32) (p1_blocks : Int32) (p1_volumes : (Nat → Int32)) (p2 : Int32) (r : Int32) (hd : den_X5_readLeader v_leaderHeard p1_volumes p2 = some r) : Met l yX5_readLeader wsX5_readLeader rmX5_readLeader (va_Pc [.ref h0, .ref h3, .int p2] (preB sz (dC, dI) [(h0, .inr (5, [.int v_many, .int v_leaderHeard, .ref h1, .ref h2])), (h3, .inr (4, [.ref h4, .int p1_blocks, .ref h5, .ref h6, .ref h7, .ref h8, .ref h9, .ref h10, .ref h11])), (h9, .inl (cI, 2464, .inl p1_volumes))] [(cI, .int), (cC, .char), (cT, .object "CassetteTones$Tape"), (cL, .long)])) (va_Qv (S := Unit) (fun _ => True) (fun _ t => posB (dC, dI) [(h0, .inr (5, [.int v_many, .int r, .ref h1, .ref h2])), (h3, .inr (4, [.ref h4, .int p1_blocks, .ref h5, .ref h6, .ref h7, .ref h8, .ref h9, .ref h10, .ref h11])), (h9, .inl (cI, 2464, .inl p1_volumes))] [(cI, .int), (cC, .char), (cT, .object "CassetteTones$Tape"), (cL, .long)] (va_A [(h0, .inr (5, [.int v_many, .int v_leaderHeard, .ref h1, .ref h2])), (h3, .inr (4, [.ref h4, .int p1_blocks, .ref h5, .ref h6, .ref h7, .ref h8, .ref h9, .ref h10, .ref h11])), (h9, .inl (cI, 2464, .inl p1_volumes))] sz) t) (va_A [(h0, .inr (5, [.int v_many, .int v_leaderHeard, .ref h1, .ref h2])), (h3, .inr (4, [.ref h4, .int p1_blocks, .ref h5, .ref h6, .ref h7, .ref h8, .ref h9, .ref h10, .ref h11])), (h9, .inl (cI, 2464, .inl p1_volumes))] sz)) 0 0 (va_A [(h0, .inr (5, [.int v_many, .int v_leaderHeard, .ref h1, .ref h2])), (h3, .inr (4, [.ref h4, .int p1_blocks, .ref h5, .ref h6, .ref h7, .ref h8, .ref h9, .ref h10, .ref h11])), (h9, .inl (cI, 2464, .inl p1_volumes))] sz) := by
  refine x_met_v (by decide) rfl (Nat.le_of_ble_eq_true rfl) ?_
  intro p e s m args below meth c A Q H locs ls hx hb hml hown hts hK hN hA hP hD hS hl hend
  have hown : s.vm.findClass RX5 = some m.cls := hown
  have hl : lv_has ls 7 [(0, .ref h0), (1, .ref h3), (2, .int p2)] := hl
  unfold den_X5_readLeader at hd
  refine lv_iconst (v := -1) hx hb dX5_readLeader_0 (by decide) ?_
  refine lv_istore_n (lv' := [(3, .int (-1 : Int32)), (0, .ref h0), (1, .ref h3), (2, .int p2)]) hx hb dX5_readLeader_1 rfl hl (by decide) rfl (fun ls hl => ?_)
  refine lv_iconst (v := -1) hx hb dX5_readLeader_2 (by decide) ?_
  refine lv_istore (lv' := [(4, .int (-1 : Int32)), (3, .int (-1 : Int32)), (0, .ref h0), (1, .ref h3), (2, .int p2)]) hx hb dX5_readLeader_3 hl (by decide) rfl (fun ls hl => ?_)
  refine lv_iload_n hx hb dX5_readLeader_5 rfl (lv_at hl 4 rfl) ?_
  refine lv_istore (lv' := [(5, .int p2), (4, .int (-1 : Int32)), (3, .int (-1 : Int32)), (0, .ref h0), (1, .ref h3), (2, .int p2)]) hx hb dX5_readLeader_6 hl (by decide) rfl (fun ls hl => ?_)
  obtain ⟨q1, hq1, hd⟩ := bnd_some hd
  have Kq1 : ∀ (H : Heap) (locs : List Loc) (ls : Array Slot), va_P (dC, dI) vwCl [(h0, .inr (5, [.int v_many, .int v_leaderHeard, .ref h1, .ref h2])), (h3, .inr (4, [.ref h4, .int p1_blocks, .ref h5, .ref h6, .ref h7, .ref h8, .ref h9, .ref h10, .ref h11])), (h9, .inl (cI, 2464, .inl p1_volumes))] H → va_D A [(h0, .inr (5, [.int v_many, .int v_leaderHeard, .ref h1, .ref h2])), (h3, .inr (4, [.ref h4, .int p1_blocks, .ref h5, .ref h6, .ref h7, .ref h8, .ref h9, .ref h10, .ref h11])), (h9, .inl (cI, 2464, .inl p1_volumes))] → va_S A s.heap H locs → lv_has ls 7 [(0, .ref h0), (4, .int q1)] → W p l e rmX5_readLeader s m args below meth c H locs 0 0 Q (F0 m 53 ls []) := by
    intro H locs ls hP hD hS hl
    refine lv_aload_n hx hb dX5_readLeader_53 rfl (lv_at hl 0 rfl) ?_
    refine lv_iload hx hb dX5_readLeader_54 (lv_at hl 1 rfl) ?_
    refine va_put (D := (dC, dI)) (ci := 5) (v := .int q1) (ty := .int) (C := RX5) (T := TX5) (N := 4) hx hb hts inX5_readLeader_X5 tyX5 tyX5_ok nmX5 hown hK hP hD hS 0 rfl rfl 1 (by decide) (hts _ kX5_readLeader_8) (fun _ h9 => h9) rfl (by decide +kernel) rfl rfl (Nat.le_of_ble_eq_true rfl) dX5_readLeader_56 (fun H locs hP hD hS => ?_)
    have hP : va_P (dC, dI) vwCl [(h0, .inr (5, [.int v_many, .int q1, .ref h1, .ref h2])), (h3, .inr (4, [.ref h4, .int p1_blocks, .ref h5, .ref h6, .ref h7, .ref h8, .ref h9, .ref h10, .ref h11])), (h9, .inl (cI, 2464, .inl p1_volumes))] H := hP
    have hD : va_D A [(h0, .inr (5, [.int v_many, .int q1, .ref h1, .ref h2])), (h3, .inr (4, [.ref h4, .int p1_blocks, .ref h5, .ref h6, .ref h7, .ref h8, .ref h9, .ref h10, .ref h11])), (h9, .inl (cI, 2464, .inl p1_volumes))] := hD
    cases hd
    exact hend hP hD hS dX5_readLeader_59
  clear hd
  have KL7 : ∀ (fu : Nat) (y3_8 : Int32) (y4_8 : Int32) (y5_8 : Int32) (hd : den_X5_readLeader_L8 p2 p1_volumes fu y3_8 y4_8 y5_8 = some q1) (H : Heap) (locs : List Loc) (ls : Array Slot), va_P (dC, dI) vwCl [(h0, .inr (5, [.int v_many, .int v_leaderHeard, .ref h1, .ref h2])), (h3, .inr (4, [.ref h4, .int p1_blocks, .ref h5, .ref h6, .ref h7, .ref h8, .ref h9, .ref h10, .ref h11])), (h9, .inl (cI, 2464, .inl p1_volumes))] H → va_D A [(h0, .inr (5, [.int v_many, .int v_leaderHeard, .ref h1, .ref h2])), (h3, .inr (4, [.ref h4, .int p1_blocks, .ref h5, .ref h6, .ref h7, .ref h8, .ref h9, .ref h10, .ref h11])), (h9, .inl (cI, 2464, .inl p1_volumes))] → va_S A s.heap H locs → lv_has ls 7 [(0, .ref h0), (1, .ref h3), (2, .int p2), (3, .int y3_8), (4, .int y4_8), (5, .int y5_8)] → W p l e rmX5_readLeader s m args below meth c H locs 0 0 Q (F0 m 8 ls []) := by
    intro fu
    induction fu with
    | zero => intro y3_8 y4_8 y5_8 hd; exact no_some hd
    | succ fu ih =>
      intro y3_8 y4_8 y5_8 hd H locs ls hP hD hS hl
      rw [den_X5_readLeader_L8] at hd
      refine lv_iload hx hb dX5_readLeader_8 (lv_at hl 5 rfl) ?_
      refine lv_iload_n hx hb dX5_readLeader_10 rfl (lv_at hl 2 rfl) ?_
      refine lv_iconst (v := 4) hx hb dX5_readLeader_11 (by decide) ?_
      refine lv_iadd hx hb dX5_readLeader_12 ?_
      refine lv_icmp_ge (tgt := 53) hx hb dX5_readLeader_13 (by decide) (fun c2 => ?_) (fun c2 => ?_)
      · replace hd := ite_t c2 hd
        cases hd
        exact Kq1 _ _ _ hP hD hS (lv_sub hl [0, 4] rfl)
      · replace hd := ite_f c2 hd
        refine lv_aload_n hx hb dX5_readLeader_16 rfl (lv_at hl 1 rfl) ?_
        refine va_getN (D := (dC, dI)) (ci := 4) (v := .ref h9) (C := RX4) (T := TX4) (N := 9) hx hb hts inX5_readLeader_X4 hown hK hP 1 rfl rfl 6 (by decide) (nx_6 hN) (fun _ h9 => h9) rfl dX5_readLeader_17 ?_
        refine lv_iload hx hb dX5_readLeader_20 (lv_at hl 5 rfl) ?_
        obtain ⟨g3, hd⟩ := gd_some hd
        have hPc : va_P (dC, dI) vwCl [(h9, .inl (cI, 2464, .inl p1_volumes))] _ := hP.sub [2] rfl
        have hDc := hD.sub (ws' := [(h9, .inl (cI, 2464, .inl p1_volumes))]) [2] (by decide) rfl
        have hFc := va_free (wc := [(h9, .inl (cI, 2464, .inl p1_volumes))]) hD hS hA [2] rfl
        refine va_calli (va_runSN (As := [.ref h9, .int y5_8]) (rest := []) ⟨hx, hb, hml, hown, hts⟩ (c_X6_valueAt l dC dI cI cC cT cL h9 2464 H.size p1_volumes y5_8 (p1_volumes y5_8.toNatClampNeg) (i_X6_valueAt (Nat.le_of_ble_eq_true rfl) g3 rfl)) ⟨(va_cnB 2 hts gX5_readLeader_X6_valueAt_n35 rfl rfl rfl (nxw_39 hN) (hts _ kX5_readLeader_10) hp_X6_valueAt ⟨Nat.le_of_ble_eq_true rfl, Nat.le_of_ble_eq_true rfl⟩), (hts _ kX5_readLeader_9), trivial⟩ ⟨preB_fb, fun U hU hW => preB_mk hU hW hPc hK hDc hN⟩ rfl rfl hl.1 rfl (lv_room (Nat.le_of_ble_eq_true rfl)) dX5_readLeader_22 ⟨Nat.zero_le _, Nat.zero_le _⟩) hS (fun q _ h => hFc q h) hFc (fun r_ u_ t H locs ht hvm hw hB hz1 hk1 hS => ?_)
        have hw : r_ = (p1_volumes y5_8.toNatClampNeg) := hw
        have hw := hw.symm
        subst hw
        obtain ⟨hP, hD⟩ := x_join (ws' := [(h0, .inr (5, [.int v_many, .int v_leaderHeard, .ref h1, .ref h2])), (h3, .inr (4, [.ref h4, .int p1_blocks, .ref h5, .ref h6, .ref h7, .ref h8, .ref h9, .ref h10, .ref h11])), (h9, .inl (cI, 2464, .inl p1_volumes))]) hP hD [2] [0, 1] rfl rfl (by decide) (by decide) hk1 hFc ht hB [0, 1, 2] (by decide) rfl
        clear hPc hDc hFc hk1 hB ht hz1 hvm
        refine lv_istore (lv' := [(6, .int (p1_volumes y5_8.toNatClampNeg)), (0, .ref h0), (1, .ref h3), (2, .int p2), (3, .int y3_8), (4, .int y4_8), (5, .int y5_8)]) hx hb dX5_readLeader_25 hl (by decide) rfl (fun ls hl => ?_)
        refine lv_iload hx hb dX5_readLeader_27 (lv_at hl 5 rfl) ?_
        refine lv_iload hx hb dX5_readLeader_29 (lv_at hl 0 rfl) ?_
        refine lv_iload_n hx hb dX5_readLeader_31 rfl (lv_at hl 4 rfl) ?_
        refine va_mmin hx hb (hml.trans hl.1.symm) hown (hts _ kX5_readLeader_1) (hts _ kX5_readLeader_2) (hts _ kX5_readLeader_3) (hts _ kX5_readLeader_4) (Nat.le_of_ble_eq_true rfl) (Nat.le_of_ble_eq_true rfl) (Nat.zero_le _) (Nat.zero_le _) dX5_readLeader_32 ?_
        refine lv_topi (fun x4 ex4 => ?_)
        replace hd := nm_some ex4 hd
        refine va_mmax hx hb (hml.trans hl.1.symm) hown (hts _ kX5_readLeader_5) (hts _ kX5_readLeader_6) (hts _ kX5_readLeader_3) (hts _ kX5_readLeader_7) (Nat.le_of_ble_eq_true rfl) (Nat.le_of_ble_eq_true rfl) (Nat.zero_le _) (Nat.zero_le _) dX5_readLeader_35 ?_
        refine lv_topi (fun x5 ex5 => ?_)
        replace hd := nm_some ex5 hd
        refine lv_istore (lv' := [(4, .int x5), (6, .int (p1_volumes y5_8.toNatClampNeg)), (0, .ref h0), (1, .ref h3), (2, .int p2), (3, .int y3_8), (5, .int y5_8)]) hx hb dX5_readLeader_38 hl (by decide) rfl (fun ls hl => ?_)
        refine lv_iload_n hx hb dX5_readLeader_40 rfl (lv_at hl 5 rfl) ?_
        refine lv_iload hx hb dX5_readLeader_41 (lv_at hl 1 rfl) ?_
        refine va_mmax hx hb (hml.trans hl.1.symm) hown (hts _ kX5_readLeader_5) (hts _ kX5_readLeader_6) (hts _ kX5_readLeader_3) (hts _ kX5_readLeader_7) (Nat.le_of_ble_eq_true rfl) (Nat.le_of_ble_eq_true rfl) (Nat.zero_le _) (Nat.zero_le _) dX5_readLeader_43 ?_
        refine lv_topi (fun x6 ex6 => ?_)
        replace hd := nm_some ex6 hd
        refine lv_istore_n (lv' := [(3, .int x6), (4, .int x5), (6, .int (p1_volumes y5_8.toNatClampNeg)), (0, .ref h0), (1, .ref h3), (2, .int p2), (5, .int y5_8)]) hx hb dX5_readLeader_46 rfl hl (by decide) rfl (fun ls hl => ?_)
        refine lv_iinc (v := (y5_8 + (1 : Int32))) (lv' := [(5, .int (y5_8 + (1 : Int32))), (3, .int x6), (4, .int x5), (6, .int (p1_volumes y5_8.toNatClampNeg)), (0, .ref h0), (1, .ref h3), (2, .int p2)]) hx hb dX5_readLeader_47 hl (k := 6) rfl (by first | rfl | decide) (by decide) rfl (fun ls hl => ?_)
        refine lv_goto (tgt := 8) hx hb dX5_readLeader_50 (by decide) ?_
        exact ih x6 x5 (y5_8 + (1 : Int32)) hd _ _ _ hP hD hS (lv_sub hl [4, 5, 6, 1, 2, 0] rfl)
  exact KL7 FU (-1 : Int32) (-1 : Int32) p2 hq1 _ _ _ hP hD hS (lv_sub hl [3, 4, 5, 2, 1, 0] rfl)
def rmX5_readCells : Room := { frames := 3, cells := 0, slots := 0, locals := 70 }
theorem kX5_readCells_1 : (Cond.fieldLink RX5 18 "CassetteTones$Telling" "many" "I") ∈ wsX5_readCells := List.mem_of_getElem? (i := 1) (by decide +kernel)
theorem inX5_readCells_X5 : ∀ w ∈ wsX50, w ∈ wsX5_readCells := by decide +kernel
theorem hp_X5_readCells : yX5_readCells.cls ≠ "java/lang/invoke/MethodHandle" ∧ yX5_readCells.cls ≠ "java/lang/invoke/VarHandle" ∧ (parseMethodDescriptor yX5_readCells.desc).map (fun d => d.parameters.length) = some 3 := by decide +kernel
theorem hv_X5_readCells : yX5_readCells.cls = RX5 ∧ yX5_readCells.cls ≠ "java/lang/invoke/MethodHandle" ∧ yX5_readCells.cls ≠ "java/lang/invoke/VarHandle" ∧ (parseMethodDescriptor yX5_readCells.desc).map (fun d => d.parameters.length) = some 3 := by decide +kernel
set_option maxHeartbeats 4000000 in
set_option maxRecDepth 100000 in
theorem c_X5_readCells (l : Launch) (dC : Nat → ClassId) (dI : Nat → Nat → Nat) (cI cC cT cL : ClassId) (h0 h1 h2 h3 h4 h5 h6 h7 h8 h9 h10 h11 : Nat) (sz : Nat) (v_many : Int32) (v_leaderHeard : Int32) (v_values : (Nat → Int32)) (v_wholeUpTo : (Nat → Int32)) (p1_blocks : Int32) (p1_volumes : (Nat → Int32)) (p1_bad : (Nat → Int32)) (p1_written : (Nat → Int32)) (p2 : Int32) (p3 : Int32) (r : (Int32 × Int32 × (Nat → Int32) × (Nat → Int32))) (hd : den_X5_readCells v_many v_leaderHeard v_values v_wholeUpTo p1_volumes p1_bad p1_written p2 p3 = some r) : Met l yX5_readCells wsX5_readCells rmX5_readCells (va_Pc [.ref h0, .ref h3, .int p2, .int p3] (preB sz (dC, dI) [(h0, .inr (5, [.int v_many, .int v_leaderHeard, .ref h1, .ref h2])), (h1, .inl (cI, 8, .inl v_values)), (h2, .inl (cI, 8, .inl v_wholeUpTo)), (h3, .inr (4, [.ref h4, .int p1_blocks, .ref h5, .ref h6, .ref h7, .ref h8, .ref h9, .ref h10, .ref h11])), (h9, .inl (cI, 2464, .inl p1_volumes)), (h10, .inl (cI, 2464, .inl p1_bad)), (h11, .inl (cI, 2464, .inl p1_written))] [(cI, .int), (cC, .char), (cT, .object "CassetteTones$Tape"), (cL, .long)])) (va_Qv (S := Unit) (fun _ => True) (fun _ t => posB (dC, dI) [(h0, .inr (5, [.int r.1, .int r.2.1, .ref h1, .ref h2])), (h1, .inl (cI, 8, .inl r.2.2.1)), (h2, .inl (cI, 8, .inl r.2.2.2)), (h3, .inr (4, [.ref h4, .int p1_blocks, .ref h5, .ref h6, .ref h7, .ref h8, .ref h9, .ref h10, .ref h11])), (h9, .inl (cI, 2464, .inl p1_volumes)), (h10, .inl (cI, 2464, .inl p1_bad)), (h11, .inl (cI, 2464, .inl p1_written))] [(cI, .int), (cC, .char), (cT, .object "CassetteTones$Tape"), (cL, .long)] (va_A [(h0, .inr (5, [.int v_many, .int v_leaderHeard, .ref h1, .ref h2])), (h1, .inl (cI, 8, .inl v_values)), (h2, .inl (cI, 8, .inl v_wholeUpTo)), (h3, .inr (4, [.ref h4, .int p1_blocks, .ref h5, .ref h6, .ref h7, .ref h8, .ref h9, .ref h10, .ref h11])), (h9, .inl (cI, 2464, .inl p1_volumes)), (h10, .inl (cI, 2464, .inl p1_bad)), (h11, .inl (cI, 2464, .inl p1_written))] sz) t) (va_A [(h0, .inr (5, [.int v_many, .int v_leaderHeard, .ref h1, .ref h2])), (h1, .inl (cI, 8, .inl v_values)), (h2, .inl (cI, 8, .inl v_wholeUpTo)), (h3, .inr (4, [.ref h4, .int p1_blocks, .ref h5, .ref h6, .ref h7, .ref h8, .ref h9, .ref h10, .ref h11])), (h9, .inl (cI, 2464, .inl p1_volumes)), (h10, .inl (cI, 2464, .inl p1_bad)), (h11, .inl (cI, 2464, .inl p1_written))] sz)) 0 0 (va_A [(h0, .inr (5, [.int v_many, .int v_leaderHeard, .ref h1, .ref h2])), (h1, .inl (cI, 8, .inl v_values)), (h2, .inl (cI, 8, .inl v_wholeUpTo)), (h3, .inr (4, [.ref h4, .int p1_blocks, .ref h5, .ref h6, .ref h7, .ref h8, .ref h9, .ref h10, .ref h11])), (h9, .inl (cI, 2464, .inl p1_volumes)), (h10, .inl (cI, 2464, .inl p1_bad)), (h11, .inl (cI, 2464, .inl p1_written))] sz) := by
  refine x_met_v (by decide) rfl (Nat.le_of_ble_eq_true rfl) ?_
  intro p e s m args below meth c A Q H locs ls hx hb hml hown hts hK hN hA hP hD hS hl hend
  have hown : s.vm.findClass RX5 = some m.cls := hown
  have hl : lv_has ls 5 [(0, .ref h0), (1, .ref h3), (2, .int p2), (3, .int p3)] := hl
  unfold den_X5_readCells at hd
  refine lv_aload_n hx hb dX5_readCells_0 rfl (lv_at hl 0 rfl) ?_
  refine lv_iload_n hx hb dX5_readCells_1 rfl (lv_at hl 3 rfl) ?_
  refine va_put (D := (dC, dI)) (ci := 5) (v := .int p3) (ty := .int) (C := RX5) (T := TX5) (N := 4) hx hb hts inX5_readCells_X5 tyX5 tyX5_ok nmX5 hown hK hP hD hS 0 rfl rfl 0 (by decide) (hts _ kX5_readCells_1) (fun _ h9 => h9) rfl (by decide +kernel) rfl rfl (Nat.le_of_ble_eq_true rfl) dX5_readCells_2 (fun H locs hP hD hS => ?_)
  have hP : va_P (dC, dI) vwCl [(h0, .inr (5, [.int p3, .int v_leaderHeard, .ref h1, .ref h2])), (h1, .inl (cI, 8, .inl v_values)), (h2, .inl (cI, 8, .inl v_wholeUpTo)), (h3, .inr (4, [.ref h4, .int p1_blocks, .ref h5, .ref h6, .ref h7, .ref h8, .ref h9, .ref h10, .ref h11])), (h9, .inl (cI, 2464, .inl p1_volumes)), (h10, .inl (cI, 2464, .inl p1_bad)), (h11, .inl (cI, 2464, .inl p1_written))] H := hP
  have hD : va_D A [(h0, .inr (5, [.int p3, .int v_leaderHeard, .ref h1, .ref h2])), (h1, .inl (cI, 8, .inl v_values)), (h2, .inl (cI, 8, .inl v_wholeUpTo)), (h3, .inr (4, [.ref h4, .int p1_blocks, .ref h5, .ref h6, .ref h7, .ref h8, .ref h9, .ref h10, .ref h11])), (h9, .inl (cI, 2464, .inl p1_volumes)), (h10, .inl (cI, 2464, .inl p1_bad)), (h11, .inl (cI, 2464, .inl p1_written))] := hD
  refine lv_aload_n hx hb dX5_readCells_5 rfl (lv_at hl 0 rfl) ?_
  refine lv_aload_n hx hb dX5_readCells_6 rfl (lv_at hl 1 rfl) ?_
  refine lv_iload_n hx hb dX5_readCells_7 rfl (lv_at hl 2 rfl) ?_
  obtain ⟨q1, hq1, hd⟩ := bnd_some hd
  have hPc : va_P (dC, dI) vwCl [(h0, .inr (5, [.int p3, .int v_leaderHeard, .ref h1, .ref h2])), (h3, .inr (4, [.ref h4, .int p1_blocks, .ref h5, .ref h6, .ref h7, .ref h8, .ref h9, .ref h10, .ref h11])), (h9, .inl (cI, 2464, .inl p1_volumes))] _ := hP.sub [0, 3, 4] rfl
  have hDc := hD.sub (ws' := [(h0, .inr (5, [.int p3, .int v_leaderHeard, .ref h1, .ref h2])), (h3, .inr (4, [.ref h4, .int p1_blocks, .ref h5, .ref h6, .ref h7, .ref h8, .ref h9, .ref h10, .ref h11])), (h9, .inl (cI, 2464, .inl p1_volumes))]) [0, 3, 4] (by decide) rfl
  have hFc := va_free (wc := [(h0, .inr (5, [.int p3, .int v_leaderHeard, .ref h1, .ref h2])), (h3, .inr (4, [.ref h4, .int p1_blocks, .ref h5, .ref h6, .ref h7, .ref h8, .ref h9, .ref h10, .ref h11])), (h9, .inl (cI, 2464, .inl p1_volumes))]) hD hS hA [0, 3, 4] rfl
  refine va_callv (va_runV (As := [.ref h3, .int p2]) (rest := []) ⟨hx, hb, hml, hown, hts⟩ (c_X5_readLeader l dC dI cI cC cT cL h0 h1 h2 h3 h4 h5 h6 h7 h8 h9 h10 h11 H.size p3 v_leaderHeard p1_blocks p1_volumes p2 q1 hq1) (cwV 2 hts gX5_readCells_X5_readLeader rfl rfl rfl hv_X5_readLeader ⟨Nat.le_of_ble_eq_true rfl, Nat.le_of_ble_eq_true rfl⟩) ⟨preB_fb, va_recv hK hPc (ci := 5) (q0 := 0) rfl rfl, fun U hU hW => preB_mk hU hW hPc hK hDc hN⟩ rfl rfl hl.1 rfl (lv_room (Nat.le_of_ble_eq_true rfl)) dX5_readCells_8 ⟨Nat.zero_le _, Nat.zero_le _⟩) hS (fun q _ h => hFc q h) hFc (fun u_ t H locs ht hvm hw hB hz1 hk1 hS => ?_)
  obtain ⟨hP, hD⟩ := x_join (ws' := [(h0, .inr (5, [.int p3, .int q1, .ref h1, .ref h2])), (h1, .inl (cI, 8, .inl v_values)), (h2, .inl (cI, 8, .inl v_wholeUpTo)), (h3, .inr (4, [.ref h4, .int p1_blocks, .ref h5, .ref h6, .ref h7, .ref h8, .ref h9, .ref h10, .ref h11])), (h9, .inl (cI, 2464, .inl p1_volumes)), (h10, .inl (cI, 2464, .inl p1_bad)), (h11, .inl (cI, 2464, .inl p1_written))]) hP hD [0, 3, 4] [1, 2, 5, 6] rfl rfl (by decide) (by decide) hk1 hFc ht hB [4, 0, 1, 5, 6, 2, 3] (by decide) rfl
  clear hPc hDc hFc hk1 hB ht hz1 hvm
  refine lv_iconst (v := 0) hx hb dX5_readCells_11 (by decide) ?_
  refine lv_istore (lv' := [(4, .int (0 : Int32)), (0, .ref h0), (1, .ref h3), (2, .int p2), (3, .int p3)]) hx hb dX5_readCells_12 hl (by decide) rfl (fun ls hl => ?_)
  obtain ⟨q2, hq2, hd⟩ := bnd_some hd
  have Kq2 : ∀ (H : Heap) (locs : List Loc) (ls : Array Slot), va_P (dC, dI) vwCl [(h0, .inr (5, [.int p3, .int q1, .ref h1, .ref h2])), (h1, .inl (cI, 8, .inl q2.1)), (h2, .inl (cI, 8, .inl q2.2)), (h3, .inr (4, [.ref h4, .int p1_blocks, .ref h5, .ref h6, .ref h7, .ref h8, .ref h9, .ref h10, .ref h11])), (h9, .inl (cI, 2464, .inl p1_volumes)), (h10, .inl (cI, 2464, .inl p1_bad)), (h11, .inl (cI, 2464, .inl p1_written))] H → va_D A [(h0, .inr (5, [.int p3, .int q1, .ref h1, .ref h2])), (h1, .inl (cI, 8, .inl q2.1)), (h2, .inl (cI, 8, .inl q2.2)), (h3, .inr (4, [.ref h4, .int p1_blocks, .ref h5, .ref h6, .ref h7, .ref h8, .ref h9, .ref h10, .ref h11])), (h9, .inl (cI, 2464, .inl p1_volumes)), (h10, .inl (cI, 2464, .inl p1_bad)), (h11, .inl (cI, 2464, .inl p1_written))] → va_S A s.heap H locs → lv_has ls 5 [] → W p l e rmX5_readCells s m args below meth c H locs 0 0 Q (F0 m 45 ls []) := by
    intro H locs ls hP hD hS hl
    cases hd
    exact hend hP hD hS dX5_readCells_45
  clear hd
  have KL5 : ∀ (fu : Nat) (y4_14 : Int32) (v_values_14 : (Nat → Int32)) (v_wholeUpTo_14 : (Nat → Int32)) (hd : den_X5_readCells_L14 p2 p3 p1_volumes p1_bad p1_written fu y4_14 v_values_14 v_wholeUpTo_14 = some q2) (H : Heap) (locs : List Loc) (ls : Array Slot), va_P (dC, dI) vwCl [(h0, .inr (5, [.int p3, .int q1, .ref h1, .ref h2])), (h1, .inl (cI, 8, .inl v_values_14)), (h2, .inl (cI, 8, .inl v_wholeUpTo_14)), (h3, .inr (4, [.ref h4, .int p1_blocks, .ref h5, .ref h6, .ref h7, .ref h8, .ref h9, .ref h10, .ref h11])), (h9, .inl (cI, 2464, .inl p1_volumes)), (h10, .inl (cI, 2464, .inl p1_bad)), (h11, .inl (cI, 2464, .inl p1_written))] H → va_D A [(h0, .inr (5, [.int p3, .int q1, .ref h1, .ref h2])), (h1, .inl (cI, 8, .inl v_values_14)), (h2, .inl (cI, 8, .inl v_wholeUpTo_14)), (h3, .inr (4, [.ref h4, .int p1_blocks, .ref h5, .ref h6, .ref h7, .ref h8, .ref h9, .ref h10, .ref h11])), (h9, .inl (cI, 2464, .inl p1_volumes)), (h10, .inl (cI, 2464, .inl p1_bad)), (h11, .inl (cI, 2464, .inl p1_written))] → va_S A s.heap H locs → lv_has ls 5 [(0, .ref h0), (1, .ref h3), (2, .int p2), (4, .int y4_14)] → W p l e rmX5_readCells s m args below meth c H locs 0 0 Q (F0 m 14 ls []) := by
    intro fu
    induction fu with
    | zero => intro y4_14 v_values_14 v_wholeUpTo_14 hd; exact no_some hd
    | succ fu ih =>
      intro y4_14 v_values_14 v_wholeUpTo_14 hd H locs ls hP hD hS hl
      rw [den_X5_readCells_L14] at hd
      refine lv_iload hx hb dX5_readCells_14 (lv_at hl 3 rfl) ?_
      refine lv_aload_n hx hb dX5_readCells_16 rfl (lv_at hl 0 rfl) ?_
      refine va_get (D := (dC, dI)) (ci := 5) (v := .int p3) (C := RX5) (T := TX5) (N := 4) hx hb hts inX5_readCells_X5 hown hK hP 0 rfl rfl 0 (by decide) (hts _ kX5_readCells_1) (fun _ h9 => h9) rfl dX5_readCells_17 ?_
      refine lv_icmp_gt (tgt := 45) hx hb dX5_readCells_20 (by decide) (fun c3 => ?_) (fun c3 => ?_)
      · replace hd := ite_t c3 hd
        cases hd
        exact Kq2 _ _ _ hP hD hS (lv_sub hl [] rfl)
      · replace hd := ite_f c3 hd
        refine lv_aload_n hx hb dX5_readCells_23 rfl (lv_at hl 0 rfl) ?_
        refine lv_aload_n hx hb dX5_readCells_24 rfl (lv_at hl 1 rfl) ?_
        refine lv_iload_n hx hb dX5_readCells_25 rfl (lv_at hl 2 rfl) ?_
        refine lv_iconst (v := 4) hx hb dX5_readCells_26 (by decide) ?_
        refine lv_iadd hx hb dX5_readCells_27 ?_
        refine lv_iload hx hb dX5_readCells_28 (lv_at hl 3 rfl) ?_
        refine lv_bipush (v := 9) hx hb dX5_readCells_30 (by decide) ?_
        refine lv_imul hx hb dX5_readCells_32 ?_
        refine lv_iadd hx hb dX5_readCells_33 ?_
        refine lv_iload hx hb dX5_readCells_34 (lv_at hl 3 rfl) ?_
        obtain ⟨q4, hq4, hd⟩ := bnd_some hd
        have hPc : va_P (dC, dI) vwCl [(h0, .inr (5, [.int p3, .int q1, .ref h1, .ref h2])), (h1, .inl (cI, 8, .inl v_values_14)), (h2, .inl (cI, 8, .inl v_wholeUpTo_14)), (h3, .inr (4, [.ref h4, .int p1_blocks, .ref h5, .ref h6, .ref h7, .ref h8, .ref h9, .ref h10, .ref h11])), (h9, .inl (cI, 2464, .inl p1_volumes)), (h10, .inl (cI, 2464, .inl p1_bad)), (h11, .inl (cI, 2464, .inl p1_written))] _ := hP.sub [0, 1, 2, 3, 4, 5, 6] rfl
        have hDc := hD.sub (ws' := [(h0, .inr (5, [.int p3, .int q1, .ref h1, .ref h2])), (h1, .inl (cI, 8, .inl v_values_14)), (h2, .inl (cI, 8, .inl v_wholeUpTo_14)), (h3, .inr (4, [.ref h4, .int p1_blocks, .ref h5, .ref h6, .ref h7, .ref h8, .ref h9, .ref h10, .ref h11])), (h9, .inl (cI, 2464, .inl p1_volumes)), (h10, .inl (cI, 2464, .inl p1_bad)), (h11, .inl (cI, 2464, .inl p1_written))]) [0, 1, 2, 3, 4, 5, 6] (by decide) rfl
        have hFc := va_free (wc := [(h0, .inr (5, [.int p3, .int q1, .ref h1, .ref h2])), (h1, .inl (cI, 8, .inl v_values_14)), (h2, .inl (cI, 8, .inl v_wholeUpTo_14)), (h3, .inr (4, [.ref h4, .int p1_blocks, .ref h5, .ref h6, .ref h7, .ref h8, .ref h9, .ref h10, .ref h11])), (h9, .inl (cI, 2464, .inl p1_volumes)), (h10, .inl (cI, 2464, .inl p1_bad)), (h11, .inl (cI, 2464, .inl p1_written))]) hD hS hA [0, 1, 2, 3, 4, 5, 6] rfl
        refine va_callv (va_runV (As := [.ref h3, .int ((p2 + (4 : Int32)) + (y4_14 * (9 : Int32))), .int y4_14]) (rest := []) ⟨hx, hb, hml, hown, hts⟩ (c_X5_readByte l dC dI cI cC cT cL h0 h1 h2 h3 h4 h5 h6 h7 h8 h9 h10 h11 H.size p3 q1 v_values_14 v_wholeUpTo_14 p1_blocks p1_volumes p1_bad p1_written ((p2 + (4 : Int32)) + (y4_14 * (9 : Int32))) y4_14 q4 hq4) (cwV 3 hts gX5_readCells_X5_readByte rfl rfl rfl hv_X5_readByte ⟨Nat.le_of_ble_eq_true rfl, Nat.le_of_ble_eq_true rfl⟩) ⟨preB_fb, va_recv hK hPc (ci := 5) (q0 := 0) rfl rfl, fun U hU hW => preB_mk hU hW hPc hK hDc hN⟩ rfl rfl hl.1 rfl (lv_room (Nat.le_of_ble_eq_true rfl)) dX5_readCells_36 ⟨Nat.zero_le _, Nat.zero_le _⟩) hS (fun q _ h => hFc q h) hFc (fun u_ t H locs ht hvm hw hB hz1 hk1 hS => ?_)
        obtain ⟨hP, hD⟩ := x_join (ws' := [(h0, .inr (5, [.int p3, .int q1, .ref h1, .ref h2])), (h1, .inl (cI, 8, .inl q4.1)), (h2, .inl (cI, 8, .inl q4.2)), (h3, .inr (4, [.ref h4, .int p1_blocks, .ref h5, .ref h6, .ref h7, .ref h8, .ref h9, .ref h10, .ref h11])), (h9, .inl (cI, 2464, .inl p1_volumes)), (h10, .inl (cI, 2464, .inl p1_bad)), (h11, .inl (cI, 2464, .inl p1_written))]) hP hD [0, 1, 2, 3, 4, 5, 6] [] rfl rfl (by decide) (by decide) hk1 hFc ht hB [0, 1, 2, 3, 4, 5, 6] (by decide) rfl
        clear hPc hDc hFc hk1 hB ht hz1 hvm
        refine lv_iinc (v := (y4_14 + (1 : Int32))) (lv' := [(4, .int (y4_14 + (1 : Int32))), (0, .ref h0), (1, .ref h3), (2, .int p2)]) hx hb dX5_readCells_39 hl (k := 3) rfl (by first | rfl | decide) (by decide) rfl (fun ls hl => ?_)
        refine lv_goto (tgt := 14) hx hb dX5_readCells_42 (by decide) ?_
        exact ih (y4_14 + (1 : Int32)) q4.1 q4.2 hd _ _ _ hP hD hS (lv_sub hl [1, 2, 3, 0] rfl)
  exact KL5 FU (0 : Int32) v_values v_wholeUpTo hq2 _ _ _ hP hD hS (lv_sub hl [1, 2, 3, 0] rfl)
def rmX0_readBlock : Room := { frames := 4, cells := 0, slots := 0, locals := 94 }
theorem kX0_readBlock_4 : (Cond.initialized RX4) ∈ wsX0_readBlock := List.mem_of_getElem? (i := 4) (by decide +kernel)
theorem kX0_readBlock_3 : (Cond.instanceMethod yX4_firstOf) ∈ wsX0_readBlock := List.mem_of_getElem? (i := 3) (by decide +kernel)
theorem kX0_readBlock_5 : (Cond.selects RX4 yX4_firstOf yX4_firstOf) ∈ wsX0_readBlock := List.mem_of_getElem? (i := 5) (by decide +kernel)
theorem kX0_readBlock_9 : (Cond.initialized RX6) ∈ wsX0_readBlock := List.mem_of_getElem? (i := 9) (by decide +kernel)
theorem kX0_readBlock_8 : (Cond.static yX6_valueAt) ∈ wsX0_readBlock := List.mem_of_getElem? (i := 8) (by decide +kernel)
theorem kX0_readBlock_1 : (Cond.fieldLink RX0 12 "CassetteTones$BlockReader" "first" "LCassetteTones$Telling;") ∈ wsX0_readBlock := List.mem_of_getElem? (i := 1) (by decide +kernel)
theorem kX0_readBlock_12 : (Cond.initialized RX5) ∈ wsX0_readBlock := List.mem_of_getElem? (i := 12) (by decide +kernel)
theorem kX0_readBlock_11 : (Cond.instanceMethod yX5_readCells) ∈ wsX0_readBlock := List.mem_of_getElem? (i := 11) (by decide +kernel)
theorem kX0_readBlock_13 : (Cond.selects RX5 yX5_readCells yX5_readCells) ∈ wsX0_readBlock := List.mem_of_getElem? (i := 13) (by decide +kernel)
theorem kX0_readBlock_2 : (Cond.fieldLink RX0 18 "CassetteTones$BlockReader" "second" "LCassetteTones$Telling;") ∈ wsX0_readBlock := List.mem_of_getElem? (i := 2) (by decide +kernel)
theorem kX0_readBlock_41 : (Cond.instanceMethod yX4_tellingCells) ∈ wsX0_readBlock := List.mem_of_getElem? (i := 41) (by decide +kernel)
theorem kX0_readBlock_42 : (Cond.selects RX4 yX4_tellingCells yX4_tellingCells) ∈ wsX0_readBlock := List.mem_of_getElem? (i := 42) (by decide +kernel)
theorem inX0_readBlock_X0 : ∀ w ∈ wsX00, w ∈ wsX0_readBlock := by decide +kernel
theorem inX0_readBlock_X4 : ∀ w ∈ wsX40, w ∈ wsX0_readBlock := by decide +kernel
theorem hp_X0_readBlock : yX0_readBlock.cls ≠ "java/lang/invoke/MethodHandle" ∧ yX0_readBlock.cls ≠ "java/lang/invoke/VarHandle" ∧ (parseMethodDescriptor yX0_readBlock.desc).map (fun d => d.parameters.length) = some 2 := by decide +kernel
theorem hv_X0_readBlock : yX0_readBlock.cls = RX0 ∧ yX0_readBlock.cls ≠ "java/lang/invoke/MethodHandle" ∧ yX0_readBlock.cls ≠ "java/lang/invoke/VarHandle" ∧ (parseMethodDescriptor yX0_readBlock.desc).map (fun d => d.parameters.length) = some 2 := by decide +kernel
set_option maxHeartbeats 4000000 in
set_option maxRecDepth 100000 in
theorem c_X0_readBlock (l : Launch) (dC : Nat → ClassId) (dI : Nat → Nat → Nat) (cI cC cT cL : ClassId) (h0 h1 h2 h3 h4 h5 h6 h7 h8 h9 h10 h11 h12 h13 h14 h15 : Nat) (sz : Nat) (v_first_many : Int32) (v_first_leaderHeard : Int32) (v_first_values : (Nat → Int32)) (v_first_wholeUpTo : (Nat → Int32)) (v_second_many : Int32) (v_second_leaderHeard : Int32) (v_second_values : (Nat → Int32)) (v_second_wholeUpTo : (Nat → Int32)) (p1_blocks : Int32) (p1_manys : (Nat → Int32)) (p1_firsts : (Nat → Int32)) (p1_volumes : (Nat → Int32)) (p1_bad : (Nat → Int32)) (p1_written : (Nat → Int32)) (p2 : Int32) (r : (Int32 × Int32 × (Nat → Int32) × (Nat → Int32) × Int32 × Int32 × (Nat → Int32) × (Nat → Int32))) (hd : den_X0_readBlock v_first_many v_first_leaderHeard v_first_values v_first_wholeUpTo v_second_many v_second_leaderHeard v_second_values v_second_wholeUpTo p1_manys p1_firsts p1_volumes p1_bad p1_written p2 = some r) : Met l yX0_readBlock wsX0_readBlock rmX0_readBlock (va_Pc [.ref h0, .ref h7, .int p2] (preB sz (dC, dI) [(h0, .inr (0, [.ref h1, .ref h4])), (h1, .inr (5, [.int v_first_many, .int v_first_leaderHeard, .ref h2, .ref h3])), (h2, .inl (cI, 8, .inl v_first_values)), (h3, .inl (cI, 8, .inl v_first_wholeUpTo)), (h4, .inr (5, [.int v_second_many, .int v_second_leaderHeard, .ref h5, .ref h6])), (h5, .inl (cI, 8, .inl v_second_values)), (h6, .inl (cI, 8, .inl v_second_wholeUpTo)), (h7, .inr (4, [.ref h8, .int p1_blocks, .ref h9, .ref h10, .ref h11, .ref h12, .ref h13, .ref h14, .ref h15])), (h11, .inl (cI, 16, .inl p1_manys)), (h12, .inl (cI, 17, .inl p1_firsts)), (h13, .inl (cI, 2464, .inl p1_volumes)), (h14, .inl (cI, 2464, .inl p1_bad)), (h15, .inl (cI, 2464, .inl p1_written))] [(cI, .int), (cC, .char), (cT, .object "CassetteTones$Tape"), (cL, .long)])) (va_Qv (S := Unit) (fun _ => True) (fun _ t => posB (dC, dI) [(h0, .inr (0, [.ref h1, .ref h4])), (h1, .inr (5, [.int r.1, .int r.2.1, .ref h2, .ref h3])), (h2, .inl (cI, 8, .inl r.2.2.1)), (h3, .inl (cI, 8, .inl r.2.2.2.1)), (h4, .inr (5, [.int r.2.2.2.2.1, .int r.2.2.2.2.2.1, .ref h5, .ref h6])), (h5, .inl (cI, 8, .inl r.2.2.2.2.2.2.1)), (h6, .inl (cI, 8, .inl r.2.2.2.2.2.2.2)), (h7, .inr (4, [.ref h8, .int p1_blocks, .ref h9, .ref h10, .ref h11, .ref h12, .ref h13, .ref h14, .ref h15])), (h11, .inl (cI, 16, .inl p1_manys)), (h12, .inl (cI, 17, .inl p1_firsts)), (h13, .inl (cI, 2464, .inl p1_volumes)), (h14, .inl (cI, 2464, .inl p1_bad)), (h15, .inl (cI, 2464, .inl p1_written))] [(cI, .int), (cC, .char), (cT, .object "CassetteTones$Tape"), (cL, .long)] (va_A [(h0, .inr (0, [.ref h1, .ref h4])), (h1, .inr (5, [.int v_first_many, .int v_first_leaderHeard, .ref h2, .ref h3])), (h2, .inl (cI, 8, .inl v_first_values)), (h3, .inl (cI, 8, .inl v_first_wholeUpTo)), (h4, .inr (5, [.int v_second_many, .int v_second_leaderHeard, .ref h5, .ref h6])), (h5, .inl (cI, 8, .inl v_second_values)), (h6, .inl (cI, 8, .inl v_second_wholeUpTo)), (h7, .inr (4, [.ref h8, .int p1_blocks, .ref h9, .ref h10, .ref h11, .ref h12, .ref h13, .ref h14, .ref h15])), (h11, .inl (cI, 16, .inl p1_manys)), (h12, .inl (cI, 17, .inl p1_firsts)), (h13, .inl (cI, 2464, .inl p1_volumes)), (h14, .inl (cI, 2464, .inl p1_bad)), (h15, .inl (cI, 2464, .inl p1_written))] sz) t) (va_A [(h0, .inr (0, [.ref h1, .ref h4])), (h1, .inr (5, [.int v_first_many, .int v_first_leaderHeard, .ref h2, .ref h3])), (h2, .inl (cI, 8, .inl v_first_values)), (h3, .inl (cI, 8, .inl v_first_wholeUpTo)), (h4, .inr (5, [.int v_second_many, .int v_second_leaderHeard, .ref h5, .ref h6])), (h5, .inl (cI, 8, .inl v_second_values)), (h6, .inl (cI, 8, .inl v_second_wholeUpTo)), (h7, .inr (4, [.ref h8, .int p1_blocks, .ref h9, .ref h10, .ref h11, .ref h12, .ref h13, .ref h14, .ref h15])), (h11, .inl (cI, 16, .inl p1_manys)), (h12, .inl (cI, 17, .inl p1_firsts)), (h13, .inl (cI, 2464, .inl p1_volumes)), (h14, .inl (cI, 2464, .inl p1_bad)), (h15, .inl (cI, 2464, .inl p1_written))] sz)) 0 0 (va_A [(h0, .inr (0, [.ref h1, .ref h4])), (h1, .inr (5, [.int v_first_many, .int v_first_leaderHeard, .ref h2, .ref h3])), (h2, .inl (cI, 8, .inl v_first_values)), (h3, .inl (cI, 8, .inl v_first_wholeUpTo)), (h4, .inr (5, [.int v_second_many, .int v_second_leaderHeard, .ref h5, .ref h6])), (h5, .inl (cI, 8, .inl v_second_values)), (h6, .inl (cI, 8, .inl v_second_wholeUpTo)), (h7, .inr (4, [.ref h8, .int p1_blocks, .ref h9, .ref h10, .ref h11, .ref h12, .ref h13, .ref h14, .ref h15])), (h11, .inl (cI, 16, .inl p1_manys)), (h12, .inl (cI, 17, .inl p1_firsts)), (h13, .inl (cI, 2464, .inl p1_volumes)), (h14, .inl (cI, 2464, .inl p1_bad)), (h15, .inl (cI, 2464, .inl p1_written))] sz) := by
  refine x_met_v (by decide) rfl (Nat.le_of_ble_eq_true rfl) ?_
  intro p e s m args below meth c A Q H locs ls hx hb hml hown hts hK hN hA hP hD hS hl hend
  have hown : s.vm.findClass RX0 = some m.cls := hown
  have hl : lv_has ls 5 [(0, .ref h0), (1, .ref h7), (2, .int p2)] := hl
  unfold den_X0_readBlock at hd
  refine lv_aload_n hx hb dX0_readBlock_0 rfl (lv_at hl 1 rfl) ?_
  refine lv_iload_n hx hb dX0_readBlock_1 rfl (lv_at hl 2 rfl) ?_
  obtain ⟨g1, hd⟩ := gd_some hd
  have hPc : va_P (dC, dI) vwCl [(h7, .inr (4, [.ref h8, .int p1_blocks, .ref h9, .ref h10, .ref h11, .ref h12, .ref h13, .ref h14, .ref h15])), (h12, .inl (cI, 17, .inl p1_firsts))] _ := hP.sub [7, 9] rfl
  have hDc := hD.sub (ws' := [(h7, .inr (4, [.ref h8, .int p1_blocks, .ref h9, .ref h10, .ref h11, .ref h12, .ref h13, .ref h14, .ref h15])), (h12, .inl (cI, 17, .inl p1_firsts))]) [7, 9] (by decide) rfl
  have hFc := va_free (wc := [(h7, .inr (4, [.ref h8, .int p1_blocks, .ref h9, .ref h10, .ref h11, .ref h12, .ref h13, .ref h14, .ref h15])), (h12, .inl (cI, 17, .inl p1_firsts))]) hD hS hA [7, 9] rfl
  refine va_calli (va_runVN (As := [.int p2]) (rest := []) ⟨hx, hb, hml, hown, hts⟩ (c_X4_firstOf l dC dI cI cC cT cL h7 h8 h9 h10 h11 h12 h13 h14 h15 H.size p1_blocks p1_firsts p2 (p1_firsts p2.toNatClampNeg) (i_X4_firstOf g1 rfl)) ⟨(va_cnB 1 hts gX0_readBlock_X4_firstOf_n21 rfl rfl rfl (nxw_36 hN) (hts _ kX0_readBlock_4) hp_X4_firstOf ⟨Nat.le_of_ble_eq_true rfl, Nat.le_of_ble_eq_true rfl⟩), (hts _ kX0_readBlock_3), (hts _ kX0_readBlock_5)⟩ ⟨preB_fb, va_recv hK hPc (ci := 4) (q0 := 0) rfl rfl, fun U hU hW => preB_mk hU hW hPc hK hDc hN⟩ rfl rfl hl.1 rfl (lv_room (Nat.le_of_ble_eq_true rfl)) dX0_readBlock_2 ⟨Nat.zero_le _, Nat.zero_le _⟩) hS (fun q _ h => hFc q h) hFc (fun r_ u_ t H locs ht hvm hw hB hz1 hk1 hS => ?_)
  have hw : r_ = (p1_firsts p2.toNatClampNeg) := hw
  have hw := hw.symm
  subst hw
  obtain ⟨hP, hD⟩ := x_join (ws' := [(h0, .inr (0, [.ref h1, .ref h4])), (h1, .inr (5, [.int v_first_many, .int v_first_leaderHeard, .ref h2, .ref h3])), (h2, .inl (cI, 8, .inl v_first_values)), (h3, .inl (cI, 8, .inl v_first_wholeUpTo)), (h4, .inr (5, [.int v_second_many, .int v_second_leaderHeard, .ref h5, .ref h6])), (h5, .inl (cI, 8, .inl v_second_values)), (h6, .inl (cI, 8, .inl v_second_wholeUpTo)), (h7, .inr (4, [.ref h8, .int p1_blocks, .ref h9, .ref h10, .ref h11, .ref h12, .ref h13, .ref h14, .ref h15])), (h11, .inl (cI, 16, .inl p1_manys)), (h12, .inl (cI, 17, .inl p1_firsts)), (h13, .inl (cI, 2464, .inl p1_volumes)), (h14, .inl (cI, 2464, .inl p1_bad)), (h15, .inl (cI, 2464, .inl p1_written))]) hP hD [7, 9] [0, 1, 2, 3, 4, 5, 6, 8, 10, 11, 12] rfl rfl (by decide) (by decide) hk1 hFc ht hB [0, 1, 2, 3, 4, 5, 6, 11, 7, 12, 8, 9, 10] (by decide) rfl
  clear hPc hDc hFc hk1 hB ht hz1 hvm
  refine lv_istore_n (lv' := [(3, .int (p1_firsts p2.toNatClampNeg)), (0, .ref h0), (1, .ref h7), (2, .int p2)]) hx hb dX0_readBlock_5 rfl hl (by decide) rfl (fun ls hl => ?_)
  refine lv_aload_n hx hb dX0_readBlock_6 rfl (lv_at hl 2 rfl) ?_
  refine va_getN (D := (dC, dI)) (ci := 4) (v := .ref h11) (C := RX4) (T := TX4) (N := 9) hx hb hts inX0_readBlock_X4 hown hK hP 7 rfl rfl 4 (by decide) (nx_4 hN) (fun _ h9 => h9) rfl dX0_readBlock_7 ?_
  refine lv_iload_n hx hb dX0_readBlock_10 rfl (lv_at hl 3 rfl) ?_
  obtain ⟨g2, hd⟩ := gd_some hd
  have hPc : va_P (dC, dI) vwCl [(h11, .inl (cI, 16, .inl p1_manys))] _ := hP.sub [8] rfl
  have hDc := hD.sub (ws' := [(h11, .inl (cI, 16, .inl p1_manys))]) [8] (by decide) rfl
  have hFc := va_free (wc := [(h11, .inl (cI, 16, .inl p1_manys))]) hD hS hA [8] rfl
  refine va_calli (va_runSN (As := [.ref h11, .int p2]) (rest := []) ⟨hx, hb, hml, hown, hts⟩ (c_X6_valueAt l dC dI cI cC cT cL h11 16 H.size p1_manys p2 (p1_manys p2.toNatClampNeg) (i_X6_valueAt (Nat.le_of_ble_eq_true rfl) g2 rfl)) ⟨(va_cnB 2 hts gX0_readBlock_X6_valueAt_n31 rfl rfl rfl (nxw_37 hN) (hts _ kX0_readBlock_9) hp_X6_valueAt ⟨Nat.le_of_ble_eq_true rfl, Nat.le_of_ble_eq_true rfl⟩), (hts _ kX0_readBlock_8), trivial⟩ ⟨preB_fb, fun U hU hW => preB_mk hU hW hPc hK hDc hN⟩ rfl rfl hl.1 rfl (lv_room (Nat.le_of_ble_eq_true rfl)) dX0_readBlock_11 ⟨Nat.zero_le _, Nat.zero_le _⟩) hS (fun q _ h => hFc q h) hFc (fun r_ u_ t H locs ht hvm hw hB hz1 hk1 hS => ?_)
  have hw : r_ = (p1_manys p2.toNatClampNeg) := hw
  have hw := hw.symm
  subst hw
  obtain ⟨hP, hD⟩ := x_join (ws' := [(h0, .inr (0, [.ref h1, .ref h4])), (h1, .inr (5, [.int v_first_many, .int v_first_leaderHeard, .ref h2, .ref h3])), (h2, .inl (cI, 8, .inl v_first_values)), (h3, .inl (cI, 8, .inl v_first_wholeUpTo)), (h4, .inr (5, [.int v_second_many, .int v_second_leaderHeard, .ref h5, .ref h6])), (h5, .inl (cI, 8, .inl v_second_values)), (h6, .inl (cI, 8, .inl v_second_wholeUpTo)), (h7, .inr (4, [.ref h8, .int p1_blocks, .ref h9, .ref h10, .ref h11, .ref h12, .ref h13, .ref h14, .ref h15])), (h11, .inl (cI, 16, .inl p1_manys)), (h12, .inl (cI, 17, .inl p1_firsts)), (h13, .inl (cI, 2464, .inl p1_volumes)), (h14, .inl (cI, 2464, .inl p1_bad)), (h15, .inl (cI, 2464, .inl p1_written))]) hP hD [8] [0, 1, 2, 3, 4, 5, 6, 7, 9, 10, 11, 12] rfl rfl (by decide) (by decide) hk1 hFc ht hB [0, 1, 2, 3, 4, 5, 6, 7, 12, 8, 9, 10, 11] (by decide) rfl
  clear hPc hDc hFc hk1 hB ht hz1 hvm
  refine lv_istore (lv' := [(4, .int (p1_manys p2.toNatClampNeg)), (3, .int (p1_firsts p2.toNatClampNeg)), (0, .ref h0), (1, .ref h7), (2, .int p2)]) hx hb dX0_readBlock_14 hl (by decide) rfl (fun ls hl => ?_)
  refine lv_aload_n hx hb dX0_readBlock_16 rfl (lv_at hl 2 rfl) ?_
  refine va_get (D := (dC, dI)) (ci := 0) (v := .ref h1) (C := RX0) (T := TX0) (N := 2) hx hb hts inX0_readBlock_X0 hown hK hP 0 rfl rfl 0 (by decide) (hts _ kX0_readBlock_1) (fun _ h9 => h9) rfl dX0_readBlock_17 ?_
  refine lv_aload_n hx hb dX0_readBlock_20 rfl (lv_at hl 3 rfl) ?_
  refine lv_iload_n hx hb dX0_readBlock_21 rfl (lv_at hl 1 rfl) ?_
  refine lv_iload hx hb dX0_readBlock_22 (lv_at hl 0 rfl) ?_
  obtain ⟨q3, hq3, hd⟩ := bnd_some hd
  have hPc : va_P (dC, dI) vwCl [(h1, .inr (5, [.int v_first_many, .int v_first_leaderHeard, .ref h2, .ref h3])), (h2, .inl (cI, 8, .inl v_first_values)), (h3, .inl (cI, 8, .inl v_first_wholeUpTo)), (h7, .inr (4, [.ref h8, .int p1_blocks, .ref h9, .ref h10, .ref h11, .ref h12, .ref h13, .ref h14, .ref h15])), (h13, .inl (cI, 2464, .inl p1_volumes)), (h14, .inl (cI, 2464, .inl p1_bad)), (h15, .inl (cI, 2464, .inl p1_written))] _ := hP.sub [1, 2, 3, 7, 10, 11, 12] rfl
  have hDc := hD.sub (ws' := [(h1, .inr (5, [.int v_first_many, .int v_first_leaderHeard, .ref h2, .ref h3])), (h2, .inl (cI, 8, .inl v_first_values)), (h3, .inl (cI, 8, .inl v_first_wholeUpTo)), (h7, .inr (4, [.ref h8, .int p1_blocks, .ref h9, .ref h10, .ref h11, .ref h12, .ref h13, .ref h14, .ref h15])), (h13, .inl (cI, 2464, .inl p1_volumes)), (h14, .inl (cI, 2464, .inl p1_bad)), (h15, .inl (cI, 2464, .inl p1_written))]) [1, 2, 3, 7, 10, 11, 12] (by decide) rfl
  have hFc := va_free (wc := [(h1, .inr (5, [.int v_first_many, .int v_first_leaderHeard, .ref h2, .ref h3])), (h2, .inl (cI, 8, .inl v_first_values)), (h3, .inl (cI, 8, .inl v_first_wholeUpTo)), (h7, .inr (4, [.ref h8, .int p1_blocks, .ref h9, .ref h10, .ref h11, .ref h12, .ref h13, .ref h14, .ref h15])), (h13, .inl (cI, 2464, .inl p1_volumes)), (h14, .inl (cI, 2464, .inl p1_bad)), (h15, .inl (cI, 2464, .inl p1_written))]) hD hS hA [1, 2, 3, 7, 10, 11, 12] rfl
  refine va_callv (va_runVN (As := [.ref h7, .int (p1_firsts p2.toNatClampNeg), .int (p1_manys p2.toNatClampNeg)]) (rest := []) ⟨hx, hb, hml, hown, hts⟩ (c_X5_readCells l dC dI cI cC cT cL h1 h2 h3 h7 h8 h9 h10 h11 h12 h13 h14 h15 H.size v_first_many v_first_leaderHeard v_first_values v_first_wholeUpTo p1_blocks p1_volumes p1_bad p1_written (p1_firsts p2.toNatClampNeg) (p1_manys p2.toNatClampNeg) q3 hq3) ⟨(va_cnB 3 hts gX0_readBlock_X5_readCells_n35 rfl rfl rfl (nxw_38 hN) (hts _ kX0_readBlock_12) hp_X5_readCells ⟨Nat.le_of_ble_eq_true rfl, Nat.le_of_ble_eq_true rfl⟩), (hts _ kX0_readBlock_11), (hts _ kX0_readBlock_13)⟩ ⟨preB_fb, va_recv hK hPc (ci := 5) (q0 := 0) rfl rfl, fun U hU hW => preB_mk hU hW hPc hK hDc hN⟩ rfl rfl hl.1 rfl (lv_room (Nat.le_of_ble_eq_true rfl)) dX0_readBlock_24 ⟨Nat.zero_le _, Nat.zero_le _⟩) hS (fun q _ h => hFc q h) hFc (fun u_ t H locs ht hvm hw hB hz1 hk1 hS => ?_)
  obtain ⟨hP, hD⟩ := x_join (ws' := [(h0, .inr (0, [.ref h1, .ref h4])), (h1, .inr (5, [.int q3.1, .int q3.2.1, .ref h2, .ref h3])), (h2, .inl (cI, 8, .inl q3.2.2.1)), (h3, .inl (cI, 8, .inl q3.2.2.2)), (h4, .inr (5, [.int v_second_many, .int v_second_leaderHeard, .ref h5, .ref h6])), (h5, .inl (cI, 8, .inl v_second_values)), (h6, .inl (cI, 8, .inl v_second_wholeUpTo)), (h7, .inr (4, [.ref h8, .int p1_blocks, .ref h9, .ref h10, .ref h11, .ref h12, .ref h13, .ref h14, .ref h15])), (h11, .inl (cI, 16, .inl p1_manys)), (h12, .inl (cI, 17, .inl p1_firsts)), (h13, .inl (cI, 2464, .inl p1_volumes)), (h14, .inl (cI, 2464, .inl p1_bad)), (h15, .inl (cI, 2464, .inl p1_written))]) hP hD [1, 2, 3, 7, 10, 11, 12] [0, 4, 5, 6, 8, 9] rfl rfl (by decide) (by decide) hk1 hFc ht hB [0, 6, 7, 8, 1, 2, 3, 9, 4, 5, 10, 11, 12] (by decide) rfl
  clear hPc hDc hFc hk1 hB ht hz1 hvm
  refine lv_aload_n hx hb dX0_readBlock_27 rfl (lv_at hl 2 rfl) ?_
  refine va_get (D := (dC, dI)) (ci := 0) (v := .ref h4) (C := RX0) (T := TX0) (N := 2) hx hb hts inX0_readBlock_X0 hown hK hP 0 rfl rfl 1 (by decide) (hts _ kX0_readBlock_2) (fun _ h9 => h9) rfl dX0_readBlock_28 ?_
  refine lv_aload_n hx hb dX0_readBlock_31 rfl (lv_at hl 3 rfl) ?_
  refine lv_iload_n hx hb dX0_readBlock_32 rfl (lv_at hl 1 rfl) ?_
  refine lv_aload_n hx hb dX0_readBlock_33 rfl (lv_at hl 3 rfl) ?_
  refine lv_iload_n hx hb dX0_readBlock_34 rfl (lv_at hl 4 rfl) ?_
  obtain ⟨q4, hq4, hd⟩ := bnd_some hd
  have hPc : va_P (dC, dI) vwCl [(h7, .inr (4, [.ref h8, .int p1_blocks, .ref h9, .ref h10, .ref h11, .ref h12, .ref h13, .ref h14, .ref h15])), (h11, .inl (cI, 16, .inl p1_manys))] _ := hP.sub [7, 8] rfl
  have hDc := hD.sub (ws' := [(h7, .inr (4, [.ref h8, .int p1_blocks, .ref h9, .ref h10, .ref h11, .ref h12, .ref h13, .ref h14, .ref h15])), (h11, .inl (cI, 16, .inl p1_manys))]) [7, 8] (by decide) rfl
  have hFc := va_free (wc := [(h7, .inr (4, [.ref h8, .int p1_blocks, .ref h9, .ref h10, .ref h11, .ref h12, .ref h13, .ref h14, .ref h15])), (h11, .inl (cI, 16, .inl p1_manys))]) hD hS hA [7, 8] rfl
  refine va_calli (va_runVN (As := [.int p2]) (rest := [.int (p1_firsts p2.toNatClampNeg), .ref h7, .ref h4]) ⟨hx, hb, hml, hown, hts⟩ (c_X4_tellingCells l dC dI cI cC cT cL h7 h8 h9 h10 h11 h12 h13 h14 h15 H.size p1_blocks p1_manys p2 q4 hq4) ⟨(va_cnB 1 hts gX0_readBlock_X4_tellingCells_n39 rfl rfl rfl (nxw_42 hN) (hts _ kX0_readBlock_4) hp_X4_tellingCells ⟨Nat.le_of_ble_eq_true rfl, Nat.le_of_ble_eq_true rfl⟩), (hts _ kX0_readBlock_41), (hts _ kX0_readBlock_42)⟩ ⟨preB_fb, va_recv hK hPc (ci := 4) (q0 := 0) rfl rfl, fun U hU hW => preB_mk hU hW hPc hK hDc hN⟩ rfl rfl hl.1 rfl (lv_room (Nat.le_of_ble_eq_true rfl)) dX0_readBlock_35 ⟨Nat.zero_le _, Nat.zero_le _⟩) hS (fun q _ h => hFc q h) hFc (fun r_ u_ t H locs ht hvm hw hB hz1 hk1 hS => ?_)
  have hw : r_ = q4 := hw
  have hw := hw.symm
  subst hw
  obtain ⟨hP, hD⟩ := x_join (ws' := [(h0, .inr (0, [.ref h1, .ref h4])), (h1, .inr (5, [.int q3.1, .int q3.2.1, .ref h2, .ref h3])), (h2, .inl (cI, 8, .inl q3.2.2.1)), (h3, .inl (cI, 8, .inl q3.2.2.2)), (h4, .inr (5, [.int v_second_many, .int v_second_leaderHeard, .ref h5, .ref h6])), (h5, .inl (cI, 8, .inl v_second_values)), (h6, .inl (cI, 8, .inl v_second_wholeUpTo)), (h7, .inr (4, [.ref h8, .int p1_blocks, .ref h9, .ref h10, .ref h11, .ref h12, .ref h13, .ref h14, .ref h15])), (h11, .inl (cI, 16, .inl p1_manys)), (h12, .inl (cI, 17, .inl p1_firsts)), (h13, .inl (cI, 2464, .inl p1_volumes)), (h14, .inl (cI, 2464, .inl p1_bad)), (h15, .inl (cI, 2464, .inl p1_written))]) hP hD [7, 8] [0, 1, 2, 3, 4, 5, 6, 9, 10, 11, 12] rfl rfl (by decide) (by decide) hk1 hFc ht hB [0, 1, 2, 3, 4, 5, 6, 11, 12, 7, 8, 9, 10] (by decide) rfl
  clear hPc hDc hFc hk1 hB ht hz1 hvm
  refine lv_iadd hx hb dX0_readBlock_38 ?_
  refine lv_iload hx hb dX0_readBlock_39 (lv_at hl 0 rfl) ?_
  obtain ⟨q5, hq5, hd⟩ := bnd_some hd
  have hPc : va_P (dC, dI) vwCl [(h4, .inr (5, [.int v_second_many, .int v_second_leaderHeard, .ref h5, .ref h6])), (h5, .inl (cI, 8, .inl v_second_values)), (h6, .inl (cI, 8, .inl v_second_wholeUpTo)), (h7, .inr (4, [.ref h8, .int p1_blocks, .ref h9, .ref h10, .ref h11, .ref h12, .ref h13, .ref h14, .ref h15])), (h13, .inl (cI, 2464, .inl p1_volumes)), (h14, .inl (cI, 2464, .inl p1_bad)), (h15, .inl (cI, 2464, .inl p1_written))] _ := hP.sub [4, 5, 6, 7, 10, 11, 12] rfl
  have hDc := hD.sub (ws' := [(h4, .inr (5, [.int v_second_many, .int v_second_leaderHeard, .ref h5, .ref h6])), (h5, .inl (cI, 8, .inl v_second_values)), (h6, .inl (cI, 8, .inl v_second_wholeUpTo)), (h7, .inr (4, [.ref h8, .int p1_blocks, .ref h9, .ref h10, .ref h11, .ref h12, .ref h13, .ref h14, .ref h15])), (h13, .inl (cI, 2464, .inl p1_volumes)), (h14, .inl (cI, 2464, .inl p1_bad)), (h15, .inl (cI, 2464, .inl p1_written))]) [4, 5, 6, 7, 10, 11, 12] (by decide) rfl
  have hFc := va_free (wc := [(h4, .inr (5, [.int v_second_many, .int v_second_leaderHeard, .ref h5, .ref h6])), (h5, .inl (cI, 8, .inl v_second_values)), (h6, .inl (cI, 8, .inl v_second_wholeUpTo)), (h7, .inr (4, [.ref h8, .int p1_blocks, .ref h9, .ref h10, .ref h11, .ref h12, .ref h13, .ref h14, .ref h15])), (h13, .inl (cI, 2464, .inl p1_volumes)), (h14, .inl (cI, 2464, .inl p1_bad)), (h15, .inl (cI, 2464, .inl p1_written))]) hD hS hA [4, 5, 6, 7, 10, 11, 12] rfl
  refine va_callv (va_runVN (As := [.ref h7, .int ((p1_firsts p2.toNatClampNeg) + q4), .int (p1_manys p2.toNatClampNeg)]) (rest := []) ⟨hx, hb, hml, hown, hts⟩ (c_X5_readCells l dC dI cI cC cT cL h4 h5 h6 h7 h8 h9 h10 h11 h12 h13 h14 h15 H.size v_second_many v_second_leaderHeard v_second_values v_second_wholeUpTo p1_blocks p1_volumes p1_bad p1_written ((p1_firsts p2.toNatClampNeg) + q4) (p1_manys p2.toNatClampNeg) q5 hq5) ⟨(va_cnB 3 hts gX0_readBlock_X5_readCells_n35 rfl rfl rfl (nxw_38 hN) (hts _ kX0_readBlock_12) hp_X5_readCells ⟨Nat.le_of_ble_eq_true rfl, Nat.le_of_ble_eq_true rfl⟩), (hts _ kX0_readBlock_11), (hts _ kX0_readBlock_13)⟩ ⟨preB_fb, va_recv hK hPc (ci := 5) (q0 := 0) rfl rfl, fun U hU hW => preB_mk hU hW hPc hK hDc hN⟩ rfl rfl hl.1 rfl (lv_room (Nat.le_of_ble_eq_true rfl)) dX0_readBlock_41 ⟨Nat.zero_le _, Nat.zero_le _⟩) hS (fun q _ h => hFc q h) hFc (fun u_ t H locs ht hvm hw hB hz1 hk1 hS => ?_)
  obtain ⟨hP, hD⟩ := x_join (ws' := [(h0, .inr (0, [.ref h1, .ref h4])), (h1, .inr (5, [.int q3.1, .int q3.2.1, .ref h2, .ref h3])), (h2, .inl (cI, 8, .inl q3.2.2.1)), (h3, .inl (cI, 8, .inl q3.2.2.2)), (h4, .inr (5, [.int q5.1, .int q5.2.1, .ref h5, .ref h6])), (h5, .inl (cI, 8, .inl q5.2.2.1)), (h6, .inl (cI, 8, .inl q5.2.2.2)), (h7, .inr (4, [.ref h8, .int p1_blocks, .ref h9, .ref h10, .ref h11, .ref h12, .ref h13, .ref h14, .ref h15])), (h11, .inl (cI, 16, .inl p1_manys)), (h12, .inl (cI, 17, .inl p1_firsts)), (h13, .inl (cI, 2464, .inl p1_volumes)), (h14, .inl (cI, 2464, .inl p1_bad)), (h15, .inl (cI, 2464, .inl p1_written))]) hP hD [4, 5, 6, 7, 10, 11, 12] [0, 1, 2, 3, 8, 9] rfl rfl (by decide) (by decide) hk1 hFc ht hB [0, 1, 2, 3, 6, 7, 8, 9, 4, 5, 10, 11, 12] (by decide) rfl
  clear hPc hDc hFc hk1 hB ht hz1 hvm
  cases hd
  exact hend hP hD hS dX0_readBlock_44
def rmX5_isByteWhole : Room := { frames := 1, cells := 0, slots := 0, locals := 21 }
theorem kX5_isByteWhole_1 : (Cond.fieldLink RX5 15 "CassetteTones$Telling" "wholeUpTo" "[I") ∈ wsX5_isByteWhole := List.mem_of_getElem? (i := 1) (by decide +kernel)
theorem kX5_isByteWhole_3 : (Cond.initialized RX6) ∈ wsX5_isByteWhole := List.mem_of_getElem? (i := 3) (by decide +kernel)
theorem kX5_isByteWhole_2 : (Cond.static yX6_valueAt) ∈ wsX5_isByteWhole := List.mem_of_getElem? (i := 2) (by decide +kernel)
theorem inX5_isByteWhole_X5 : ∀ w ∈ wsX50, w ∈ wsX5_isByteWhole := by decide +kernel
theorem hp_X5_isByteWhole : yX5_isByteWhole.cls ≠ "java/lang/invoke/MethodHandle" ∧ yX5_isByteWhole.cls ≠ "java/lang/invoke/VarHandle" ∧ (parseMethodDescriptor yX5_isByteWhole.desc).map (fun d => d.parameters.length) = some 2 := by decide +kernel
theorem hv_X5_isByteWhole : yX5_isByteWhole.cls = RX5 ∧ yX5_isByteWhole.cls ≠ "java/lang/invoke/MethodHandle" ∧ yX5_isByteWhole.cls ≠ "java/lang/invoke/VarHandle" ∧ (parseMethodDescriptor yX5_isByteWhole.desc).map (fun d => d.parameters.length) = some 2 := by decide +kernel
set_option maxHeartbeats 4000000 in
set_option maxRecDepth 100000 in
theorem c_X5_isByteWhole (l : Launch) (dC : Nat → ClassId) (dI : Nat → Nat → Nat) (cI cC cT cL : ClassId) (h0 h1 h2 : Nat) (sz : Nat) (v_many : Int32) (v_leaderHeard : Int32) (v_wholeUpTo : (Nat → Int32)) (p1 : Int32) (p2 : Int32) (r : Int32) (hd : den_X5_isByteWhole v_wholeUpTo p1 p2 = some r) : Met l yX5_isByteWhole wsX5_isByteWhole rmX5_isByteWhole (va_Pc [.ref h0, .int p1, .int p2] (preB sz (dC, dI) [(h0, .inr (5, [.int v_many, .int v_leaderHeard, .ref h1, .ref h2])), (h2, .inl (cI, 8, .inl v_wholeUpTo))] [(cI, .int), (cC, .char), (cT, .object "CassetteTones$Tape"), (cL, .long)])) (va_Qi (S := Unit) (fun v _ => v = r) (fun _ t => posB (dC, dI) [(h0, .inr (5, [.int v_many, .int v_leaderHeard, .ref h1, .ref h2])), (h2, .inl (cI, 8, .inl v_wholeUpTo))] [(cI, .int), (cC, .char), (cT, .object "CassetteTones$Tape"), (cL, .long)] (va_A [(h0, .inr (5, [.int v_many, .int v_leaderHeard, .ref h1, .ref h2])), (h2, .inl (cI, 8, .inl v_wholeUpTo))] sz) t) (va_A [(h0, .inr (5, [.int v_many, .int v_leaderHeard, .ref h1, .ref h2])), (h2, .inl (cI, 8, .inl v_wholeUpTo))] sz)) 0 0 (va_A [(h0, .inr (5, [.int v_many, .int v_leaderHeard, .ref h1, .ref h2])), (h2, .inl (cI, 8, .inl v_wholeUpTo))] sz) := by
  refine x_met_z (by decide) rfl (Nat.le_of_ble_eq_true rfl) ?_
  intro p e s m args below meth c A Q H locs ls hx hb hml hown hts hK hN hA hP hD hS hl hend
  have hown : s.vm.findClass RX5 = some m.cls := hown
  have hl : lv_has ls 3 [(0, .ref h0), (1, .int p1), (2, .int p2)] := hl
  unfold den_X5_isByteWhole at hd
  refine lv_aload_n hx hb dX5_isByteWhole_0 rfl (lv_at hl 0 rfl) ?_
  refine va_get (D := (dC, dI)) (ci := 5) (v := .ref h2) (C := RX5) (T := TX5) (N := 4) hx hb hts inX5_isByteWhole_X5 hown hK hP 0 rfl rfl 3 (by decide) (hts _ kX5_isByteWhole_1) (fun _ h9 => h9) rfl dX5_isByteWhole_1 ?_
  refine lv_iload_n hx hb dX5_isByteWhole_4 rfl (lv_at hl 1 rfl) ?_
  obtain ⟨g1, hd⟩ := gd_some hd
  have hPc : va_P (dC, dI) vwCl [(h2, .inl (cI, 8, .inl v_wholeUpTo))] _ := hP.sub [1] rfl
  have hDc := hD.sub (ws' := [(h2, .inl (cI, 8, .inl v_wholeUpTo))]) [1] (by decide) rfl
  have hFc := va_free (wc := [(h2, .inl (cI, 8, .inl v_wholeUpTo))]) hD hS hA [1] rfl
  refine va_calli (va_runSN (As := [.ref h2, .int p1]) (rest := []) ⟨hx, hb, hml, hown, hts⟩ (c_X6_valueAt l dC dI cI cC cT cL h2 8 H.size v_wholeUpTo p1 (v_wholeUpTo p1.toNatClampNeg) (i_X6_valueAt (Nat.le_of_ble_eq_true rfl) g1 rfl)) ⟨(va_cnB 2 hts gX5_isByteWhole_X6_valueAt_n35 rfl rfl rfl (nxw_39 hN) (hts _ kX5_isByteWhole_3) hp_X6_valueAt ⟨Nat.le_of_ble_eq_true rfl, Nat.le_of_ble_eq_true rfl⟩), (hts _ kX5_isByteWhole_2), trivial⟩ ⟨preB_fb, fun U hU hW => preB_mk hU hW hPc hK hDc hN⟩ rfl rfl hl.1 rfl (lv_room (Nat.le_of_ble_eq_true rfl)) dX5_isByteWhole_5 ⟨Nat.zero_le _, Nat.zero_le _⟩) hS (fun q _ h => hFc q h) hFc (fun r_ u_ t H locs ht hvm hw hB hz1 hk1 hS => ?_)
  have hw : r_ = (v_wholeUpTo p1.toNatClampNeg) := hw
  have hw := hw.symm
  subst hw
  obtain ⟨hP, hD⟩ := x_join (ws' := [(h0, .inr (5, [.int v_many, .int v_leaderHeard, .ref h1, .ref h2])), (h2, .inl (cI, 8, .inl v_wholeUpTo))]) hP hD [1] [0] rfl rfl (by decide) (by decide) hk1 hFc ht hB [0, 1] (by decide) rfl
  clear hPc hDc hFc hk1 hB ht hz1 hvm
  refine lv_iload_n hx hb dX5_isByteWhole_8 rfl (lv_at hl 2 rfl) ?_
  refine lv_icmp_lt (tgt := 16) hx hb dX5_isByteWhole_9 (by decide) (fun c2 => ?_) (fun c2 => ?_)
  · replace hd := ite_t c2 hd
    refine lv_iconst (v := 0) hx hb dX5_isByteWhole_16 (by decide) ?_
    cases hd
    exact hend (by rfl) (by rfl) hP hD hS dX5_isByteWhole_17
  · replace hd := ite_f c2 hd
    refine lv_iconst (v := 1) hx hb dX5_isByteWhole_12 (by decide) ?_
    refine lv_goto (tgt := 17) hx hb dX5_isByteWhole_13 (by decide) ?_
    cases hd
    exact hend (by rfl) (by rfl) hP hD hS dX5_isByteWhole_17
def rmX0_byteTogether : Room := { frames := 2, cells := 0, slots := 0, locals := 43 }
theorem kX0_byteTogether_1 : (Cond.fieldLink RX0 12 "CassetteTones$BlockReader" "first" "LCassetteTones$Telling;") ∈ wsX0_byteTogether := List.mem_of_getElem? (i := 1) (by decide +kernel)
theorem kX0_byteTogether_4 : (Cond.initialized RX5) ∈ wsX0_byteTogether := List.mem_of_getElem? (i := 4) (by decide +kernel)
theorem kX0_byteTogether_3 : (Cond.instanceMethod yX5_isByteWhole) ∈ wsX0_byteTogether := List.mem_of_getElem? (i := 3) (by decide +kernel)
theorem kX0_byteTogether_5 : (Cond.selects RX5 yX5_isByteWhole yX5_isByteWhole) ∈ wsX0_byteTogether := List.mem_of_getElem? (i := 5) (by decide +kernel)
theorem kX0_byteTogether_2 : (Cond.fieldLink RX0 18 "CassetteTones$BlockReader" "second" "LCassetteTones$Telling;") ∈ wsX0_byteTogether := List.mem_of_getElem? (i := 2) (by decide +kernel)
theorem kX0_byteTogether_9 : (Cond.initialized RX6) ∈ wsX0_byteTogether := List.mem_of_getElem? (i := 9) (by decide +kernel)
theorem kX0_byteTogether_8 : (Cond.static yX6_valueAt) ∈ wsX0_byteTogether := List.mem_of_getElem? (i := 8) (by decide +kernel)
theorem inX0_byteTogether_X0 : ∀ w ∈ wsX00, w ∈ wsX0_byteTogether := by decide +kernel
theorem inX0_byteTogether_X5 : ∀ w ∈ wsX50, w ∈ wsX0_byteTogether := by decide +kernel
theorem hp_X0_byteTogether : yX0_byteTogether.cls ≠ "java/lang/invoke/MethodHandle" ∧ yX0_byteTogether.cls ≠ "java/lang/invoke/VarHandle" ∧ (parseMethodDescriptor yX0_byteTogether.desc).map (fun d => d.parameters.length) = some 2 := by decide +kernel
theorem hv_X0_byteTogether : yX0_byteTogether.cls = RX0 ∧ yX0_byteTogether.cls ≠ "java/lang/invoke/MethodHandle" ∧ yX0_byteTogether.cls ≠ "java/lang/invoke/VarHandle" ∧ (parseMethodDescriptor yX0_byteTogether.desc).map (fun d => d.parameters.length) = some 2 := by decide +kernel
set_option maxHeartbeats 4000000 in
set_option maxRecDepth 100000 in
theorem c_X0_byteTogether (l : Launch) (dC : Nat → ClassId) (dI : Nat → Nat → Nat) (cI cC cT cL : ClassId) (h0 h1 h2 h3 h4 h5 h6 : Nat) (sz : Nat) (v_first_many : Int32) (v_first_leaderHeard : Int32) (v_first_values : (Nat → Int32)) (v_first_wholeUpTo : (Nat → Int32)) (v_second_many : Int32) (v_second_leaderHeard : Int32) (v_second_values : (Nat → Int32)) (v_second_wholeUpTo : (Nat → Int32)) (p1 : Int32) (p2 : Int32) (r : Int32) (hd : den_X0_byteTogether v_first_values v_first_wholeUpTo v_second_values v_second_wholeUpTo p1 p2 = some r) : Met l yX0_byteTogether wsX0_byteTogether rmX0_byteTogether (va_Pc [.ref h0, .int p1, .int p2] (preB sz (dC, dI) [(h0, .inr (0, [.ref h1, .ref h4])), (h1, .inr (5, [.int v_first_many, .int v_first_leaderHeard, .ref h2, .ref h3])), (h2, .inl (cI, 8, .inl v_first_values)), (h3, .inl (cI, 8, .inl v_first_wholeUpTo)), (h4, .inr (5, [.int v_second_many, .int v_second_leaderHeard, .ref h5, .ref h6])), (h5, .inl (cI, 8, .inl v_second_values)), (h6, .inl (cI, 8, .inl v_second_wholeUpTo))] [(cI, .int), (cC, .char), (cT, .object "CassetteTones$Tape"), (cL, .long)])) (va_Qi (S := Unit) (fun v _ => v = r) (fun _ t => posB (dC, dI) [(h0, .inr (0, [.ref h1, .ref h4])), (h1, .inr (5, [.int v_first_many, .int v_first_leaderHeard, .ref h2, .ref h3])), (h2, .inl (cI, 8, .inl v_first_values)), (h3, .inl (cI, 8, .inl v_first_wholeUpTo)), (h4, .inr (5, [.int v_second_many, .int v_second_leaderHeard, .ref h5, .ref h6])), (h5, .inl (cI, 8, .inl v_second_values)), (h6, .inl (cI, 8, .inl v_second_wholeUpTo))] [(cI, .int), (cC, .char), (cT, .object "CassetteTones$Tape"), (cL, .long)] (va_A [(h0, .inr (0, [.ref h1, .ref h4])), (h1, .inr (5, [.int v_first_many, .int v_first_leaderHeard, .ref h2, .ref h3])), (h2, .inl (cI, 8, .inl v_first_values)), (h3, .inl (cI, 8, .inl v_first_wholeUpTo)), (h4, .inr (5, [.int v_second_many, .int v_second_leaderHeard, .ref h5, .ref h6])), (h5, .inl (cI, 8, .inl v_second_values)), (h6, .inl (cI, 8, .inl v_second_wholeUpTo))] sz) t) (va_A [(h0, .inr (0, [.ref h1, .ref h4])), (h1, .inr (5, [.int v_first_many, .int v_first_leaderHeard, .ref h2, .ref h3])), (h2, .inl (cI, 8, .inl v_first_values)), (h3, .inl (cI, 8, .inl v_first_wholeUpTo)), (h4, .inr (5, [.int v_second_many, .int v_second_leaderHeard, .ref h5, .ref h6])), (h5, .inl (cI, 8, .inl v_second_values)), (h6, .inl (cI, 8, .inl v_second_wholeUpTo))] sz)) 0 0 (va_A [(h0, .inr (0, [.ref h1, .ref h4])), (h1, .inr (5, [.int v_first_many, .int v_first_leaderHeard, .ref h2, .ref h3])), (h2, .inl (cI, 8, .inl v_first_values)), (h3, .inl (cI, 8, .inl v_first_wholeUpTo)), (h4, .inr (5, [.int v_second_many, .int v_second_leaderHeard, .ref h5, .ref h6])), (h5, .inl (cI, 8, .inl v_second_values)), (h6, .inl (cI, 8, .inl v_second_wholeUpTo))] sz) := by
  refine x_met_i (by decide) rfl (Nat.le_of_ble_eq_true rfl) ?_
  intro p e s m args below meth c A Q H locs ls hx hb hml hown hts hK hN hA hP hD hS hl hend
  have hown : s.vm.findClass RX0 = some m.cls := hown
  have hl : lv_has ls 3 [(0, .ref h0), (1, .int p1), (2, .int p2)] := hl
  unfold den_X0_byteTogether at hd
  refine lv_aload_n hx hb dX0_byteTogether_0 rfl (lv_at hl 0 rfl) ?_
  refine va_get (D := (dC, dI)) (ci := 0) (v := .ref h1) (C := RX0) (T := TX0) (N := 2) hx hb hts inX0_byteTogether_X0 hown hK hP 0 rfl rfl 0 (by decide) (hts _ kX0_byteTogether_1) (fun _ h9 => h9) rfl dX0_byteTogether_1 ?_
  refine lv_iload_n hx hb dX0_byteTogether_4 rfl (lv_at hl 1 rfl) ?_
  refine lv_iload_n hx hb dX0_byteTogether_5 rfl (lv_at hl 2 rfl) ?_
  obtain ⟨q1, hq1, hd⟩ := bnd_some hd
  have hPc : va_P (dC, dI) vwCl [(h1, .inr (5, [.int v_first_many, .int v_first_leaderHeard, .ref h2, .ref h3])), (h3, .inl (cI, 8, .inl v_first_wholeUpTo))] _ := hP.sub [1, 3] rfl
  have hDc := hD.sub (ws' := [(h1, .inr (5, [.int v_first_many, .int v_first_leaderHeard, .ref h2, .ref h3])), (h3, .inl (cI, 8, .inl v_first_wholeUpTo))]) [1, 3] (by decide) rfl
  have hFc := va_free (wc := [(h1, .inr (5, [.int v_first_many, .int v_first_leaderHeard, .ref h2, .ref h3])), (h3, .inl (cI, 8, .inl v_first_wholeUpTo))]) hD hS hA [1, 3] rfl
  refine va_calli (va_runVN (As := [.int p1, .int p2]) (rest := []) ⟨hx, hb, hml, hown, hts⟩ (c_X5_isByteWhole l dC dI cI cC cT cL h1 h2 h3 H.size v_first_many v_first_leaderHeard v_first_wholeUpTo p1 p2 q1 hq1) ⟨(va_cnB 2 hts gX0_byteTogether_X5_isByteWhole_n64 rfl rfl rfl (nxw_48 hN) (hts _ kX0_byteTogether_4) hp_X5_isByteWhole ⟨Nat.le_of_ble_eq_true rfl, Nat.le_of_ble_eq_true rfl⟩), (hts _ kX0_byteTogether_3), (hts _ kX0_byteTogether_5)⟩ ⟨preB_fb, va_recv hK hPc (ci := 5) (q0 := 0) rfl rfl, fun U hU hW => preB_mk hU hW hPc hK hDc hN⟩ rfl rfl hl.1 rfl (lv_room (Nat.le_of_ble_eq_true rfl)) dX0_byteTogether_6 ⟨Nat.zero_le _, Nat.zero_le _⟩) hS (fun q _ h => hFc q h) hFc (fun r_ u_ t H locs ht hvm hw hB hz1 hk1 hS => ?_)
  have hw : r_ = q1 := hw
  have hw := hw.symm
  subst hw
  obtain ⟨hP, hD⟩ := x_join (ws' := [(h0, .inr (0, [.ref h1, .ref h4])), (h1, .inr (5, [.int v_first_many, .int v_first_leaderHeard, .ref h2, .ref h3])), (h2, .inl (cI, 8, .inl v_first_values)), (h3, .inl (cI, 8, .inl v_first_wholeUpTo)), (h4, .inr (5, [.int v_second_many, .int v_second_leaderHeard, .ref h5, .ref h6])), (h5, .inl (cI, 8, .inl v_second_values)), (h6, .inl (cI, 8, .inl v_second_wholeUpTo))]) hP hD [1, 3] [0, 2, 4, 5, 6] rfl rfl (by decide) (by decide) hk1 hFc ht hB [0, 5, 1, 6, 2, 3, 4] (by decide) rfl
  clear hPc hDc hFc hk1 hB ht hz1 hvm
  refine lv_if_eq (tgt := 24) hx hb dX0_byteTogether_9 (by decide) (fun c2 => ?_) (fun c2 => ?_)
  · replace hd := ite_t c2 hd
    refine lv_aload_n hx hb dX0_byteTogether_24 rfl (lv_at hl 0 rfl) ?_
    refine va_get (D := (dC, dI)) (ci := 0) (v := .ref h4) (C := RX0) (T := TX0) (N := 2) hx hb hts inX0_byteTogether_X0 hown hK hP 0 rfl rfl 1 (by decide) (hts _ kX0_byteTogether_2) (fun _ h9 => h9) rfl dX0_byteTogether_25 ?_
    refine lv_iload_n hx hb dX0_byteTogether_28 rfl (lv_at hl 1 rfl) ?_
    refine lv_iload_n hx hb dX0_byteTogether_29 rfl (lv_at hl 2 rfl) ?_
    obtain ⟨q3, hq3, hd⟩ := bnd_some hd
    have hPc : va_P (dC, dI) vwCl [(h4, .inr (5, [.int v_second_many, .int v_second_leaderHeard, .ref h5, .ref h6])), (h6, .inl (cI, 8, .inl v_second_wholeUpTo))] _ := hP.sub [4, 6] rfl
    have hDc := hD.sub (ws' := [(h4, .inr (5, [.int v_second_many, .int v_second_leaderHeard, .ref h5, .ref h6])), (h6, .inl (cI, 8, .inl v_second_wholeUpTo))]) [4, 6] (by decide) rfl
    have hFc := va_free (wc := [(h4, .inr (5, [.int v_second_many, .int v_second_leaderHeard, .ref h5, .ref h6])), (h6, .inl (cI, 8, .inl v_second_wholeUpTo))]) hD hS hA [4, 6] rfl
    refine va_calli (va_runVN (As := [.int p1, .int p2]) (rest := []) ⟨hx, hb, hml, hown, hts⟩ (c_X5_isByteWhole l dC dI cI cC cT cL h4 h5 h6 H.size v_second_many v_second_leaderHeard v_second_wholeUpTo p1 p2 q3 hq3) ⟨(va_cnB 2 hts gX0_byteTogether_X5_isByteWhole_n64 rfl rfl rfl (nxw_48 hN) (hts _ kX0_byteTogether_4) hp_X5_isByteWhole ⟨Nat.le_of_ble_eq_true rfl, Nat.le_of_ble_eq_true rfl⟩), (hts _ kX0_byteTogether_3), (hts _ kX0_byteTogether_5)⟩ ⟨preB_fb, va_recv hK hPc (ci := 5) (q0 := 0) rfl rfl, fun U hU hW => preB_mk hU hW hPc hK hDc hN⟩ rfl rfl hl.1 rfl (lv_room (Nat.le_of_ble_eq_true rfl)) dX0_byteTogether_30 ⟨Nat.zero_le _, Nat.zero_le _⟩) hS (fun q _ h => hFc q h) hFc (fun r_ u_ t H locs ht hvm hw hB hz1 hk1 hS => ?_)
    have hw : r_ = q3 := hw
    have hw := hw.symm
    subst hw
    obtain ⟨hP, hD⟩ := x_join (ws' := [(h0, .inr (0, [.ref h1, .ref h4])), (h1, .inr (5, [.int v_first_many, .int v_first_leaderHeard, .ref h2, .ref h3])), (h2, .inl (cI, 8, .inl v_first_values)), (h3, .inl (cI, 8, .inl v_first_wholeUpTo)), (h4, .inr (5, [.int v_second_many, .int v_second_leaderHeard, .ref h5, .ref h6])), (h5, .inl (cI, 8, .inl v_second_values)), (h6, .inl (cI, 8, .inl v_second_wholeUpTo))]) hP hD [4, 6] [0, 1, 2, 3, 5] rfl rfl (by decide) (by decide) hk1 hFc ht hB [0, 1, 2, 3, 5, 4, 6] (by decide) rfl
    clear hPc hDc hFc hk1 hB ht hz1 hvm
    refine lv_if_eq (tgt := 50) hx hb dX0_byteTogether_33 (by decide) (fun c4 => ?_) (fun c4 => ?_)
    · replace hd := ite_t c4 hd
      refine lv_bipush (v := -6) hx hb dX0_byteTogether_50 (by decide) ?_
      cases hd
      exact hend (by rfl) hP hD hS dX0_byteTogether_52
    · replace hd := ite_f c4 hd
      refine lv_aload_n hx hb dX0_byteTogether_36 rfl (lv_at hl 0 rfl) ?_
      refine va_get (D := (dC, dI)) (ci := 0) (v := .ref h4) (C := RX0) (T := TX0) (N := 2) hx hb hts inX0_byteTogether_X0 hown hK hP 0 rfl rfl 1 (by decide) (hts _ kX0_byteTogether_2) (fun _ h9 => h9) rfl dX0_byteTogether_37 ?_
      refine va_getN (D := (dC, dI)) (ci := 5) (v := .ref h5) (C := RX5) (T := TX5) (N := 4) hx hb hts inX0_byteTogether_X5 hown hK hP 4 rfl rfl 2 (by decide) (nx_10 hN) (fun _ h9 => h9) rfl dX0_byteTogether_40 ?_
      refine lv_iload_n hx hb dX0_byteTogether_43 rfl (lv_at hl 1 rfl) ?_
      obtain ⟨g5, hd⟩ := gd_some hd
      have hPc : va_P (dC, dI) vwCl [(h5, .inl (cI, 8, .inl v_second_values))] _ := hP.sub [5] rfl
      have hDc := hD.sub (ws' := [(h5, .inl (cI, 8, .inl v_second_values))]) [5] (by decide) rfl
      have hFc := va_free (wc := [(h5, .inl (cI, 8, .inl v_second_values))]) hD hS hA [5] rfl
      refine va_calli (va_runSN (As := [.ref h5, .int p1]) (rest := []) ⟨hx, hb, hml, hown, hts⟩ (c_X6_valueAt l dC dI cI cC cT cL h5 8 H.size v_second_values p1 (v_second_values p1.toNatClampNeg) (i_X6_valueAt (Nat.le_of_ble_eq_true rfl) g5 rfl)) ⟨(va_cnB 2 hts gX0_byteTogether_X6_valueAt_n31 rfl rfl rfl (nxw_37 hN) (hts _ kX0_byteTogether_9) hp_X6_valueAt ⟨Nat.le_of_ble_eq_true rfl, Nat.le_of_ble_eq_true rfl⟩), (hts _ kX0_byteTogether_8), trivial⟩ ⟨preB_fb, fun U hU hW => preB_mk hU hW hPc hK hDc hN⟩ rfl rfl hl.1 rfl (lv_room (Nat.le_of_ble_eq_true rfl)) dX0_byteTogether_44 ⟨Nat.zero_le _, Nat.zero_le _⟩) hS (fun q _ h => hFc q h) hFc (fun r_ u_ t H locs ht hvm hw hB hz1 hk1 hS => ?_)
      have hw : r_ = (v_second_values p1.toNatClampNeg) := hw
      have hw := hw.symm
      subst hw
      obtain ⟨hP, hD⟩ := x_join (ws' := [(h0, .inr (0, [.ref h1, .ref h4])), (h1, .inr (5, [.int v_first_many, .int v_first_leaderHeard, .ref h2, .ref h3])), (h2, .inl (cI, 8, .inl v_first_values)), (h3, .inl (cI, 8, .inl v_first_wholeUpTo)), (h4, .inr (5, [.int v_second_many, .int v_second_leaderHeard, .ref h5, .ref h6])), (h5, .inl (cI, 8, .inl v_second_values)), (h6, .inl (cI, 8, .inl v_second_wholeUpTo))]) hP hD [5] [0, 1, 2, 3, 4, 6] rfl rfl (by decide) (by decide) hk1 hFc ht hB [0, 1, 2, 3, 4, 6, 5] (by decide) rfl
      clear hPc hDc hFc hk1 hB ht hz1 hvm
      refine lv_goto (tgt := 52) hx hb dX0_byteTogether_47 (by decide) ?_
      cases hd
      exact hend (by rfl) hP hD hS dX0_byteTogether_52
  · replace hd := ite_f c2 hd
    refine lv_aload_n hx hb dX0_byteTogether_12 rfl (lv_at hl 0 rfl) ?_
    refine va_get (D := (dC, dI)) (ci := 0) (v := .ref h1) (C := RX0) (T := TX0) (N := 2) hx hb hts inX0_byteTogether_X0 hown hK hP 0 rfl rfl 0 (by decide) (hts _ kX0_byteTogether_1) (fun _ h9 => h9) rfl dX0_byteTogether_13 ?_
    refine va_getN (D := (dC, dI)) (ci := 5) (v := .ref h2) (C := RX5) (T := TX5) (N := 4) hx hb hts inX0_byteTogether_X5 hown hK hP 1 rfl rfl 2 (by decide) (nx_10 hN) (fun _ h9 => h9) rfl dX0_byteTogether_16 ?_
    refine lv_iload_n hx hb dX0_byteTogether_19 rfl (lv_at hl 1 rfl) ?_
    obtain ⟨g6, hd⟩ := gd_some hd
    have hPc : va_P (dC, dI) vwCl [(h2, .inl (cI, 8, .inl v_first_values))] _ := hP.sub [2] rfl
    have hDc := hD.sub (ws' := [(h2, .inl (cI, 8, .inl v_first_values))]) [2] (by decide) rfl
    have hFc := va_free (wc := [(h2, .inl (cI, 8, .inl v_first_values))]) hD hS hA [2] rfl
    refine va_calli (va_runSN (As := [.ref h2, .int p1]) (rest := []) ⟨hx, hb, hml, hown, hts⟩ (c_X6_valueAt l dC dI cI cC cT cL h2 8 H.size v_first_values p1 (v_first_values p1.toNatClampNeg) (i_X6_valueAt (Nat.le_of_ble_eq_true rfl) g6 rfl)) ⟨(va_cnB 2 hts gX0_byteTogether_X6_valueAt_n31 rfl rfl rfl (nxw_37 hN) (hts _ kX0_byteTogether_9) hp_X6_valueAt ⟨Nat.le_of_ble_eq_true rfl, Nat.le_of_ble_eq_true rfl⟩), (hts _ kX0_byteTogether_8), trivial⟩ ⟨preB_fb, fun U hU hW => preB_mk hU hW hPc hK hDc hN⟩ rfl rfl hl.1 rfl (lv_room (Nat.le_of_ble_eq_true rfl)) dX0_byteTogether_20 ⟨Nat.zero_le _, Nat.zero_le _⟩) hS (fun q _ h => hFc q h) hFc (fun r_ u_ t H locs ht hvm hw hB hz1 hk1 hS => ?_)
    have hw : r_ = (v_first_values p1.toNatClampNeg) := hw
    have hw := hw.symm
    subst hw
    obtain ⟨hP, hD⟩ := x_join (ws' := [(h0, .inr (0, [.ref h1, .ref h4])), (h1, .inr (5, [.int v_first_many, .int v_first_leaderHeard, .ref h2, .ref h3])), (h2, .inl (cI, 8, .inl v_first_values)), (h3, .inl (cI, 8, .inl v_first_wholeUpTo)), (h4, .inr (5, [.int v_second_many, .int v_second_leaderHeard, .ref h5, .ref h6])), (h5, .inl (cI, 8, .inl v_second_values)), (h6, .inl (cI, 8, .inl v_second_wholeUpTo))]) hP hD [2] [0, 1, 3, 4, 5, 6] rfl rfl (by decide) (by decide) hk1 hFc ht hB [0, 1, 6, 2, 3, 4, 5] (by decide) rfl
    clear hPc hDc hFc hk1 hB ht hz1 hvm
    cases hd
    exact hend (by rfl) hP hD hS dX0_byteTogether_23
def rmX5_isLost : Room := { frames := 0, cells := 0, slots := 0, locals := 0 }
theorem kX5_isLost_1 : (Cond.fieldLink RX5 48 "CassetteTones$Telling" "leaderHeard" "I") ∈ wsX5_isLost := List.mem_of_getElem? (i := 1) (by decide +kernel)
theorem inX5_isLost_X5 : ∀ w ∈ wsX50, w ∈ wsX5_isLost := by decide +kernel
theorem hp_X5_isLost : yX5_isLost.cls ≠ "java/lang/invoke/MethodHandle" ∧ yX5_isLost.cls ≠ "java/lang/invoke/VarHandle" ∧ (parseMethodDescriptor yX5_isLost.desc).map (fun d => d.parameters.length) = some 1 := by decide +kernel
theorem hv_X5_isLost : yX5_isLost.cls = RX5 ∧ yX5_isLost.cls ≠ "java/lang/invoke/MethodHandle" ∧ yX5_isLost.cls ≠ "java/lang/invoke/VarHandle" ∧ (parseMethodDescriptor yX5_isLost.desc).map (fun d => d.parameters.length) = some 1 := by decide +kernel
set_option maxHeartbeats 4000000 in
set_option maxRecDepth 100000 in
theorem c_X5_isLost (l : Launch) (dC : Nat → ClassId) (dI : Nat → Nat → Nat) (cI cC cT cL : ClassId) (h0 h1 h2 : Nat) (sz : Nat) (v_many : Int32) (v_leaderHeard : Int32) (p1 : Int32) (r : Int32) (hd : den_X5_isLost v_leaderHeard p1 = some r) : Met l yX5_isLost wsX5_isLost rmX5_isLost (va_Pc [.ref h0, .int p1] (preB sz (dC, dI) [(h0, .inr (5, [.int v_many, .int v_leaderHeard, .ref h1, .ref h2]))] [(cI, .int), (cC, .char), (cT, .object "CassetteTones$Tape"), (cL, .long)])) (va_Qi (S := Unit) (fun v _ => v = r) (fun _ t => posB (dC, dI) [(h0, .inr (5, [.int v_many, .int v_leaderHeard, .ref h1, .ref h2]))] [(cI, .int), (cC, .char), (cT, .object "CassetteTones$Tape"), (cL, .long)] (va_A [(h0, .inr (5, [.int v_many, .int v_leaderHeard, .ref h1, .ref h2]))] sz) t) (va_A [(h0, .inr (5, [.int v_many, .int v_leaderHeard, .ref h1, .ref h2]))] sz)) 0 0 (va_A [(h0, .inr (5, [.int v_many, .int v_leaderHeard, .ref h1, .ref h2]))] sz) := by
  refine x_met_z (by decide) rfl (Nat.le_of_ble_eq_true rfl) ?_
  intro p e s m args below meth c A Q H locs ls hx hb hml hown hts hK hN hA hP hD hS hl hend
  have hown : s.vm.findClass RX5 = some m.cls := hown
  have hl : lv_has ls 2 [(0, .ref h0), (1, .int p1)] := hl
  unfold den_X5_isLost at hd
  refine lv_aload_n hx hb dX5_isLost_0 rfl (lv_at hl 0 rfl) ?_
  refine va_get (D := (dC, dI)) (ci := 5) (v := .int v_leaderHeard) (C := RX5) (T := TX5) (N := 4) hx hb hts inX5_isLost_X5 hown hK hP 0 rfl rfl 1 (by decide) (hts _ kX5_isLost_1) (fun _ h9 => h9) rfl dX5_isLost_1 ?_
  refine lv_iload_n hx hb dX5_isLost_4 rfl (lv_at hl 1 rfl) ?_
  refine lv_icmp_ge (tgt := 12) hx hb dX5_isLost_5 (by decide) (fun c1 => ?_) (fun c1 => ?_)
  · replace hd := ite_t c1 hd
    refine lv_iconst (v := 0) hx hb dX5_isLost_12 (by decide) ?_
    cases hd
    exact hend (by rfl) (by rfl) hP hD hS dX5_isLost_13
  · replace hd := ite_f c1 hd
    refine lv_iconst (v := 1) hx hb dX5_isLost_8 (by decide) ?_
    refine lv_goto (tgt := 13) hx hb dX5_isLost_9 (by decide) ?_
    cases hd
    exact hend (by rfl) (by rfl) hP hD hS dX5_isLost_13
def rmX5_tellsSum : Room := { frames := 2, cells := 0, slots := 0, locals := 43 }
theorem kX5_tellsSum_1 : (Cond.fieldLink RX5 18 "CassetteTones$Telling" "many" "I") ∈ wsX5_tellsSum := List.mem_of_getElem? (i := 1) (by decide +kernel)
theorem kX5_tellsSum_2 : (Cond.fieldLink RX5 9 "CassetteTones$Telling" "values" "[I") ∈ wsX5_tellsSum := List.mem_of_getElem? (i := 2) (by decide +kernel)
theorem kX5_tellsSum_10 : (Cond.initialized RX6) ∈ wsX5_tellsSum := List.mem_of_getElem? (i := 10) (by decide +kernel)
theorem kX5_tellsSum_9 : (Cond.static yX6_valueAt) ∈ wsX5_tellsSum := List.mem_of_getElem? (i := 9) (by decide +kernel)
theorem inX5_tellsSum_X5 : ∀ w ∈ wsX50, w ∈ wsX5_tellsSum := by decide +kernel
theorem hp_X5_tellsSum : yX5_tellsSum.cls ≠ "java/lang/invoke/MethodHandle" ∧ yX5_tellsSum.cls ≠ "java/lang/invoke/VarHandle" ∧ (parseMethodDescriptor yX5_tellsSum.desc).map (fun d => d.parameters.length) = some 2 := by decide +kernel
theorem hv_X5_tellsSum : yX5_tellsSum.cls = RX5 ∧ yX5_tellsSum.cls ≠ "java/lang/invoke/MethodHandle" ∧ yX5_tellsSum.cls ≠ "java/lang/invoke/VarHandle" ∧ (parseMethodDescriptor yX5_tellsSum.desc).map (fun d => d.parameters.length) = some 2 := by decide +kernel
set_option maxHeartbeats 4000000 in
set_option maxRecDepth 100000 in
theorem c_X5_tellsSum (l : Launch) (dC : Nat → ClassId) (dI : Nat → Nat → Nat) (cI cC cT cL : ClassId) (h0 h1 h2 : Nat) (sz : Nat) (v_many : Int32) (v_leaderHeard : Int32) (v_values : (Nat → Int32)) (v_wholeUpTo : (Nat → Int32)) (p1 : Int32) (p2 : Int32) (r : Int32) (hd : den_X5_tellsSum v_many v_values v_wholeUpTo p1 p2 = some r) : Met l yX5_tellsSum wsX5_tellsSum rmX5_tellsSum (va_Pc [.ref h0, .int p1, .int p2] (preB sz (dC, dI) [(h0, .inr (5, [.int v_many, .int v_leaderHeard, .ref h1, .ref h2])), (h1, .inl (cI, 8, .inl v_values)), (h2, .inl (cI, 8, .inl v_wholeUpTo))] [(cI, .int), (cC, .char), (cT, .object "CassetteTones$Tape"), (cL, .long)])) (va_Qi (S := Unit) (fun v _ => v = r) (fun _ t => posB (dC, dI) [(h0, .inr (5, [.int v_many, .int v_leaderHeard, .ref h1, .ref h2])), (h1, .inl (cI, 8, .inl v_values)), (h2, .inl (cI, 8, .inl v_wholeUpTo))] [(cI, .int), (cC, .char), (cT, .object "CassetteTones$Tape"), (cL, .long)] (va_A [(h0, .inr (5, [.int v_many, .int v_leaderHeard, .ref h1, .ref h2])), (h1, .inl (cI, 8, .inl v_values)), (h2, .inl (cI, 8, .inl v_wholeUpTo))] sz) t) (va_A [(h0, .inr (5, [.int v_many, .int v_leaderHeard, .ref h1, .ref h2])), (h1, .inl (cI, 8, .inl v_values)), (h2, .inl (cI, 8, .inl v_wholeUpTo))] sz)) 0 0 (va_A [(h0, .inr (5, [.int v_many, .int v_leaderHeard, .ref h1, .ref h2])), (h1, .inl (cI, 8, .inl v_values)), (h2, .inl (cI, 8, .inl v_wholeUpTo))] sz) := by
  refine x_met_z (by decide) rfl (Nat.le_of_ble_eq_true rfl) ?_
  intro p e s m args below meth c A Q H locs ls hx hb hml hown hts hK hN hA hP hD hS hl hend
  have hown : s.vm.findClass RX5 = some m.cls := hown
  have hl : lv_has ls 3 [(0, .ref h0), (1, .int p1), (2, .int p2)] := hl
  unfold den_X5_tellsSum at hd
  refine lv_aload_n hx hb dX5_tellsSum_0 rfl (lv_at hl 0 rfl) ?_
  refine lv_aload_n hx hb dX5_tellsSum_1 rfl (lv_at hl 0 rfl) ?_
  refine va_get (D := (dC, dI)) (ci := 5) (v := .int v_many) (C := RX5) (T := TX5) (N := 4) hx hb hts inX5_tellsSum_X5 hown hK hP 0 rfl rfl 0 (by decide) (hts _ kX5_tellsSum_1) (fun _ h9 => h9) rfl dX5_tellsSum_2 ?_
  refine lv_iload_n hx hb dX5_tellsSum_5 rfl (lv_at hl 2 rfl) ?_
  obtain ⟨q1, hq1, hd⟩ := bnd_some hd
  have hPc : va_P (dC, dI) vwCl [(h0, .inr (5, [.int v_many, .int v_leaderHeard, .ref h1, .ref h2])), (h2, .inl (cI, 8, .inl v_wholeUpTo))] _ := hP.sub [0, 2] rfl
  have hDc := hD.sub (ws' := [(h0, .inr (5, [.int v_many, .int v_leaderHeard, .ref h1, .ref h2])), (h2, .inl (cI, 8, .inl v_wholeUpTo))]) [0, 2] (by decide) rfl
  have hFc := va_free (wc := [(h0, .inr (5, [.int v_many, .int v_leaderHeard, .ref h1, .ref h2])), (h2, .inl (cI, 8, .inl v_wholeUpTo))]) hD hS hA [0, 2] rfl
  refine va_calli (va_runV (As := [.int v_many, .int p2]) (rest := []) ⟨hx, hb, hml, hown, hts⟩ (c_X5_isByteWhole l dC dI cI cC cT cL h0 h1 h2 H.size v_many v_leaderHeard v_wholeUpTo v_many p2 q1 hq1) (cwV 2 hts gX5_tellsSum_X5_isByteWhole rfl rfl rfl hv_X5_isByteWhole ⟨Nat.le_of_ble_eq_true rfl, Nat.le_of_ble_eq_true rfl⟩) ⟨preB_fb, va_recv hK hPc (ci := 5) (q0 := 0) rfl rfl, fun U hU hW => preB_mk hU hW hPc hK hDc hN⟩ rfl rfl hl.1 rfl (lv_room (Nat.le_of_ble_eq_true rfl)) dX5_tellsSum_6 ⟨Nat.zero_le _, Nat.zero_le _⟩) hS (fun q _ h => hFc q h) hFc (fun r_ u_ t H locs ht hvm hw hB hz1 hk1 hS => ?_)
  have hw : r_ = q1 := hw
  have hw := hw.symm
  subst hw
  obtain ⟨hP, hD⟩ := x_join (ws' := [(h0, .inr (5, [.int v_many, .int v_leaderHeard, .ref h1, .ref h2])), (h1, .inl (cI, 8, .inl v_values)), (h2, .inl (cI, 8, .inl v_wholeUpTo))]) hP hD [0, 2] [1] rfl rfl (by decide) (by decide) hk1 hFc ht hB [1, 0, 2] (by decide) rfl
  clear hPc hDc hFc hk1 hB ht hz1 hvm
  refine lv_if_eq (tgt := 35) hx hb dX5_tellsSum_9 (by decide) (fun c2 => ?_) (fun c2 => ?_)
  · replace hd := ite_t c2 hd
    refine lv_iconst (v := 0) hx hb dX5_tellsSum_35 (by decide) ?_
    cases hd
    exact hend (by rfl) (by rfl) hP hD hS dX5_tellsSum_36
  · replace hd := ite_f c2 hd
    refine lv_aload_n hx hb dX5_tellsSum_12 rfl (lv_at hl 0 rfl) ?_
    refine va_get (D := (dC, dI)) (ci := 5) (v := .ref h1) (C := RX5) (T := TX5) (N := 4) hx hb hts inX5_tellsSum_X5 hown hK hP 0 rfl rfl 2 (by decide) (hts _ kX5_tellsSum_2) (fun _ h9 => h9) rfl dX5_tellsSum_13 ?_
    refine lv_aload_n hx hb dX5_tellsSum_16 rfl (lv_at hl 0 rfl) ?_
    refine va_get (D := (dC, dI)) (ci := 5) (v := .int v_many) (C := RX5) (T := TX5) (N := 4) hx hb hts inX5_tellsSum_X5 hown hK hP 0 rfl rfl 0 (by decide) (hts _ kX5_tellsSum_1) (fun _ h9 => h9) rfl dX5_tellsSum_17 ?_
    obtain ⟨g3, hd⟩ := gd_some hd
    have hPc : va_P (dC, dI) vwCl [(h1, .inl (cI, 8, .inl v_values))] _ := hP.sub [1] rfl
    have hDc := hD.sub (ws' := [(h1, .inl (cI, 8, .inl v_values))]) [1] (by decide) rfl
    have hFc := va_free (wc := [(h1, .inl (cI, 8, .inl v_values))]) hD hS hA [1] rfl
    refine va_calli (va_runSN (As := [.ref h1, .int v_many]) (rest := []) ⟨hx, hb, hml, hown, hts⟩ (c_X6_valueAt l dC dI cI cC cT cL h1 8 H.size v_values v_many (v_values v_many.toNatClampNeg) (i_X6_valueAt (Nat.le_of_ble_eq_true rfl) g3 rfl)) ⟨(va_cnB 2 hts gX5_tellsSum_X6_valueAt_n35 rfl rfl rfl (nxw_39 hN) (hts _ kX5_tellsSum_10) hp_X6_valueAt ⟨Nat.le_of_ble_eq_true rfl, Nat.le_of_ble_eq_true rfl⟩), (hts _ kX5_tellsSum_9), trivial⟩ ⟨preB_fb, fun U hU hW => preB_mk hU hW hPc hK hDc hN⟩ rfl rfl hl.1 rfl (lv_room (Nat.le_of_ble_eq_true rfl)) dX5_tellsSum_20 ⟨Nat.zero_le _, Nat.zero_le _⟩) hS (fun q _ h => hFc q h) hFc (fun r_ u_ t H locs ht hvm hw hB hz1 hk1 hS => ?_)
    have hw : r_ = (v_values v_many.toNatClampNeg) := hw
    have hw := hw.symm
    subst hw
    obtain ⟨hP, hD⟩ := x_join (ws' := [(h0, .inr (5, [.int v_many, .int v_leaderHeard, .ref h1, .ref h2])), (h1, .inl (cI, 8, .inl v_values)), (h2, .inl (cI, 8, .inl v_wholeUpTo))]) hP hD [1] [0, 2] rfl rfl (by decide) (by decide) hk1 hFc ht hB [0, 2, 1] (by decide) rfl
    clear hPc hDc hFc hk1 hB ht hz1 hvm
    refine lv_iload_n hx hb dX5_tellsSum_23 rfl (lv_at hl 1 rfl) ?_
    refine lv_sipush (v := 255) hx hb dX5_tellsSum_24 (by decide) ?_
    refine lv_iand hx hb dX5_tellsSum_27 ?_
    refine lv_icmp_ne (tgt := 35) hx hb dX5_tellsSum_28 (by decide) (fun c4 => ?_) (fun c4 => ?_)
    · replace hd := ite_f c4 hd
      refine lv_iconst (v := 0) hx hb dX5_tellsSum_35 (by decide) ?_
      cases hd
      exact hend (by rfl) (by rfl) hP hD hS dX5_tellsSum_36
    · replace hd := ite_t c4 hd
      refine lv_iconst (v := 1) hx hb dX5_tellsSum_31 (by decide) ?_
      refine lv_goto (tgt := 36) hx hb dX5_tellsSum_32 (by decide) ?_
      cases hd
      exact hend (by rfl) (by rfl) hP hD hS dX5_tellsSum_36
def rmX0_isWholeTogether : Room := { frames := 3, cells := 0, slots := 0, locals := 65 }
theorem kX0_isWholeTogether_1 : (Cond.fieldLink RX0 12 "CassetteTones$BlockReader" "first" "LCassetteTones$Telling;") ∈ wsX0_isWholeTogether := List.mem_of_getElem? (i := 1) (by decide +kernel)
theorem kX0_isWholeTogether_4 : (Cond.initialized RX5) ∈ wsX0_isWholeTogether := List.mem_of_getElem? (i := 4) (by decide +kernel)
theorem kX0_isWholeTogether_3 : (Cond.instanceMethod yX5_isLost) ∈ wsX0_isWholeTogether := List.mem_of_getElem? (i := 3) (by decide +kernel)
theorem kX0_isWholeTogether_5 : (Cond.selects RX5 yX5_isLost yX5_isLost) ∈ wsX0_isWholeTogether := List.mem_of_getElem? (i := 5) (by decide +kernel)
theorem kX0_isWholeTogether_2 : (Cond.fieldLink RX0 18 "CassetteTones$BlockReader" "second" "LCassetteTones$Telling;") ∈ wsX0_isWholeTogether := List.mem_of_getElem? (i := 2) (by decide +kernel)
theorem kX0_isWholeTogether_20 : (Cond.instanceMethod yX5_tellsSum) ∈ wsX0_isWholeTogether := List.mem_of_getElem? (i := 20) (by decide +kernel)
theorem kX0_isWholeTogether_21 : (Cond.selects RX5 yX5_tellsSum yX5_tellsSum) ∈ wsX0_isWholeTogether := List.mem_of_getElem? (i := 21) (by decide +kernel)
theorem inX0_isWholeTogether_X0 : ∀ w ∈ wsX00, w ∈ wsX0_isWholeTogether := by decide +kernel
theorem inX0_isWholeTogether_X5 : ∀ w ∈ wsX50, w ∈ wsX0_isWholeTogether := by decide +kernel
theorem hp_X0_isWholeTogether : yX0_isWholeTogether.cls ≠ "java/lang/invoke/MethodHandle" ∧ yX0_isWholeTogether.cls ≠ "java/lang/invoke/VarHandle" ∧ (parseMethodDescriptor yX0_isWholeTogether.desc).map (fun d => d.parameters.length) = some 1 := by decide +kernel
theorem hv_X0_isWholeTogether : yX0_isWholeTogether.cls = RX0 ∧ yX0_isWholeTogether.cls ≠ "java/lang/invoke/MethodHandle" ∧ yX0_isWholeTogether.cls ≠ "java/lang/invoke/VarHandle" ∧ (parseMethodDescriptor yX0_isWholeTogether.desc).map (fun d => d.parameters.length) = some 1 := by decide +kernel
set_option maxHeartbeats 4000000 in
set_option maxRecDepth 100000 in
theorem c_X0_isWholeTogether (l : Launch) (dC : Nat → ClassId) (dI : Nat → Nat → Nat) (cI cC cT cL : ClassId) (h0 h1 h2 h3 h4 h5 h6 : Nat) (sz : Nat) (v_first_many : Int32) (v_first_leaderHeard : Int32) (v_first_values : (Nat → Int32)) (v_first_wholeUpTo : (Nat → Int32)) (v_second_many : Int32) (v_second_leaderHeard : Int32) (v_second_values : (Nat → Int32)) (v_second_wholeUpTo : (Nat → Int32)) (p1 : Int32) (r : Int32) (hd : den_X0_isWholeTogether v_first_many v_first_leaderHeard v_first_values v_first_wholeUpTo v_second_many v_second_leaderHeard v_second_values v_second_wholeUpTo p1 = some r) : Met l yX0_isWholeTogether wsX0_isWholeTogether rmX0_isWholeTogether (va_Pc [.ref h0, .int p1] (preB sz (dC, dI) [(h0, .inr (0, [.ref h1, .ref h4])), (h1, .inr (5, [.int v_first_many, .int v_first_leaderHeard, .ref h2, .ref h3])), (h2, .inl (cI, 8, .inl v_first_values)), (h3, .inl (cI, 8, .inl v_first_wholeUpTo)), (h4, .inr (5, [.int v_second_many, .int v_second_leaderHeard, .ref h5, .ref h6])), (h5, .inl (cI, 8, .inl v_second_values)), (h6, .inl (cI, 8, .inl v_second_wholeUpTo))] [(cI, .int), (cC, .char), (cT, .object "CassetteTones$Tape"), (cL, .long)])) (va_Qi (S := Unit) (fun v _ => v = r) (fun _ t => posB (dC, dI) [(h0, .inr (0, [.ref h1, .ref h4])), (h1, .inr (5, [.int v_first_many, .int v_first_leaderHeard, .ref h2, .ref h3])), (h2, .inl (cI, 8, .inl v_first_values)), (h3, .inl (cI, 8, .inl v_first_wholeUpTo)), (h4, .inr (5, [.int v_second_many, .int v_second_leaderHeard, .ref h5, .ref h6])), (h5, .inl (cI, 8, .inl v_second_values)), (h6, .inl (cI, 8, .inl v_second_wholeUpTo))] [(cI, .int), (cC, .char), (cT, .object "CassetteTones$Tape"), (cL, .long)] (va_A [(h0, .inr (0, [.ref h1, .ref h4])), (h1, .inr (5, [.int v_first_many, .int v_first_leaderHeard, .ref h2, .ref h3])), (h2, .inl (cI, 8, .inl v_first_values)), (h3, .inl (cI, 8, .inl v_first_wholeUpTo)), (h4, .inr (5, [.int v_second_many, .int v_second_leaderHeard, .ref h5, .ref h6])), (h5, .inl (cI, 8, .inl v_second_values)), (h6, .inl (cI, 8, .inl v_second_wholeUpTo))] sz) t) (va_A [(h0, .inr (0, [.ref h1, .ref h4])), (h1, .inr (5, [.int v_first_many, .int v_first_leaderHeard, .ref h2, .ref h3])), (h2, .inl (cI, 8, .inl v_first_values)), (h3, .inl (cI, 8, .inl v_first_wholeUpTo)), (h4, .inr (5, [.int v_second_many, .int v_second_leaderHeard, .ref h5, .ref h6])), (h5, .inl (cI, 8, .inl v_second_values)), (h6, .inl (cI, 8, .inl v_second_wholeUpTo))] sz)) 0 0 (va_A [(h0, .inr (0, [.ref h1, .ref h4])), (h1, .inr (5, [.int v_first_many, .int v_first_leaderHeard, .ref h2, .ref h3])), (h2, .inl (cI, 8, .inl v_first_values)), (h3, .inl (cI, 8, .inl v_first_wholeUpTo)), (h4, .inr (5, [.int v_second_many, .int v_second_leaderHeard, .ref h5, .ref h6])), (h5, .inl (cI, 8, .inl v_second_values)), (h6, .inl (cI, 8, .inl v_second_wholeUpTo))] sz) := by
  refine x_met_z (by decide) rfl (Nat.le_of_ble_eq_true rfl) ?_
  intro p e s m args below meth c A Q H locs ls hx hb hml hown hts hK hN hA hP hD hS hl hend
  have hown : s.vm.findClass RX0 = some m.cls := hown
  have hl : lv_has ls 5 [(0, .ref h0), (1, .int p1)] := hl
  unfold den_X0_isWholeTogether at hd
  refine lv_aload_n hx hb dX0_isWholeTogether_0 rfl (lv_at hl 0 rfl) ?_
  refine va_get (D := (dC, dI)) (ci := 0) (v := .ref h1) (C := RX0) (T := TX0) (N := 2) hx hb hts inX0_isWholeTogether_X0 hown hK hP 0 rfl rfl 0 (by decide) (hts _ kX0_isWholeTogether_1) (fun _ h9 => h9) rfl dX0_isWholeTogether_1 ?_
  refine lv_iload_n hx hb dX0_isWholeTogether_4 rfl (lv_at hl 1 rfl) ?_
  obtain ⟨q1, hq1, hd⟩ := bnd_some hd
  have hPc : va_P (dC, dI) vwCl [(h1, .inr (5, [.int v_first_many, .int v_first_leaderHeard, .ref h2, .ref h3]))] _ := hP.sub [1] rfl
  have hDc := hD.sub (ws' := [(h1, .inr (5, [.int v_first_many, .int v_first_leaderHeard, .ref h2, .ref h3]))]) [1] (by decide) rfl
  have hFc := va_free (wc := [(h1, .inr (5, [.int v_first_many, .int v_first_leaderHeard, .ref h2, .ref h3]))]) hD hS hA [1] rfl
  refine va_calli (va_runVN (As := [.int p1]) (rest := []) ⟨hx, hb, hml, hown, hts⟩ (c_X5_isLost l dC dI cI cC cT cL h1 h2 h3 H.size v_first_many v_first_leaderHeard p1 q1 hq1) ⟨(va_cnB 1 hts gX0_isWholeTogether_X5_isLost_n49 rfl rfl rfl (nxw_47 hN) (hts _ kX0_isWholeTogether_4) hp_X5_isLost ⟨Nat.le_of_ble_eq_true rfl, Nat.le_of_ble_eq_true rfl⟩), (hts _ kX0_isWholeTogether_3), (hts _ kX0_isWholeTogether_5)⟩ ⟨preB_fb, va_recv hK hPc (ci := 5) (q0 := 0) rfl rfl, fun U hU hW => preB_mk hU hW hPc hK hDc hN⟩ rfl rfl hl.1 rfl (lv_room (Nat.le_of_ble_eq_true rfl)) dX0_isWholeTogether_5 ⟨Nat.zero_le _, Nat.zero_le _⟩) hS (fun q _ h => hFc q h) hFc (fun r_ u_ t H locs ht hvm hw hB hz1 hk1 hS => ?_)
  have hw : r_ = q1 := hw
  have hw := hw.symm
  subst hw
  obtain ⟨hP, hD⟩ := x_join (ws' := [(h0, .inr (0, [.ref h1, .ref h4])), (h1, .inr (5, [.int v_first_many, .int v_first_leaderHeard, .ref h2, .ref h3])), (h2, .inl (cI, 8, .inl v_first_values)), (h3, .inl (cI, 8, .inl v_first_wholeUpTo)), (h4, .inr (5, [.int v_second_many, .int v_second_leaderHeard, .ref h5, .ref h6])), (h5, .inl (cI, 8, .inl v_second_values)), (h6, .inl (cI, 8, .inl v_second_wholeUpTo))]) hP hD [1] [0, 2, 3, 4, 5, 6] rfl rfl (by decide) (by decide) hk1 hFc ht hB [0, 6, 1, 2, 3, 4, 5] (by decide) rfl
  clear hPc hDc hFc hk1 hB ht hz1 hvm
  refine lv_if_ne (tgt := 22) hx hb dX0_isWholeTogether_8 (by decide) (fun c2 => ?_) (fun c2 => ?_)
  · replace hd := ite_f c2 hd
    refine lv_iconst (v := 0) hx hb dX0_isWholeTogether_22 (by decide) ?_
    cases hd
    exact hend (by rfl) (by rfl) hP hD hS dX0_isWholeTogether_23
  · replace hd := ite_t c2 hd
    refine lv_aload_n hx hb dX0_isWholeTogether_11 rfl (lv_at hl 0 rfl) ?_
    refine va_get (D := (dC, dI)) (ci := 0) (v := .ref h4) (C := RX0) (T := TX0) (N := 2) hx hb hts inX0_isWholeTogether_X0 hown hK hP 0 rfl rfl 1 (by decide) (hts _ kX0_isWholeTogether_2) (fun _ h9 => h9) rfl dX0_isWholeTogether_12 ?_
    refine lv_iload_n hx hb dX0_isWholeTogether_15 rfl (lv_at hl 1 rfl) ?_
    obtain ⟨q3, hq3, hd⟩ := bnd_some hd
    have hPc : va_P (dC, dI) vwCl [(h4, .inr (5, [.int v_second_many, .int v_second_leaderHeard, .ref h5, .ref h6]))] _ := hP.sub [4] rfl
    have hDc := hD.sub (ws' := [(h4, .inr (5, [.int v_second_many, .int v_second_leaderHeard, .ref h5, .ref h6]))]) [4] (by decide) rfl
    have hFc := va_free (wc := [(h4, .inr (5, [.int v_second_many, .int v_second_leaderHeard, .ref h5, .ref h6]))]) hD hS hA [4] rfl
    refine va_calli (va_runVN (As := [.int p1]) (rest := []) ⟨hx, hb, hml, hown, hts⟩ (c_X5_isLost l dC dI cI cC cT cL h4 h5 h6 H.size v_second_many v_second_leaderHeard p1 q3 hq3) ⟨(va_cnB 1 hts gX0_isWholeTogether_X5_isLost_n49 rfl rfl rfl (nxw_47 hN) (hts _ kX0_isWholeTogether_4) hp_X5_isLost ⟨Nat.le_of_ble_eq_true rfl, Nat.le_of_ble_eq_true rfl⟩), (hts _ kX0_isWholeTogether_3), (hts _ kX0_isWholeTogether_5)⟩ ⟨preB_fb, va_recv hK hPc (ci := 5) (q0 := 0) rfl rfl, fun U hU hW => preB_mk hU hW hPc hK hDc hN⟩ rfl rfl hl.1 rfl (lv_room (Nat.le_of_ble_eq_true rfl)) dX0_isWholeTogether_16 ⟨Nat.zero_le _, Nat.zero_le _⟩) hS (fun q _ h => hFc q h) hFc (fun r_ u_ t H locs ht hvm hw hB hz1 hk1 hS => ?_)
    have hw : r_ = q3 := hw
    have hw := hw.symm
    subst hw
    obtain ⟨hP, hD⟩ := x_join (ws' := [(h0, .inr (0, [.ref h1, .ref h4])), (h1, .inr (5, [.int v_first_many, .int v_first_leaderHeard, .ref h2, .ref h3])), (h2, .inl (cI, 8, .inl v_first_values)), (h3, .inl (cI, 8, .inl v_first_wholeUpTo)), (h4, .inr (5, [.int v_second_many, .int v_second_leaderHeard, .ref h5, .ref h6])), (h5, .inl (cI, 8, .inl v_second_values)), (h6, .inl (cI, 8, .inl v_second_wholeUpTo))]) hP hD [4] [0, 1, 2, 3, 5, 6] rfl rfl (by decide) (by decide) hk1 hFc ht hB [0, 1, 2, 3, 6, 4, 5] (by decide) rfl
    clear hPc hDc hFc hk1 hB ht hz1 hvm
    refine lv_if_eq (tgt := 24) hx hb dX0_isWholeTogether_19 (by decide) (fun c4 => ?_) (fun c4 => ?_)
    · replace hd := ite_t c4 hd
      refine lv_iconst (v := 0) hx hb dX0_isWholeTogether_24 (by decide) ?_
      refine lv_istore_n (lv' := [(2, .int (0 : Int32)), (0, .ref h0), (1, .int p1)]) hx hb dX0_isWholeTogether_25 rfl hl (by decide) rfl (fun ls hl => ?_)
      refine lv_iconst (v := 0) hx hb dX0_isWholeTogether_26 (by decide) ?_
      refine lv_istore_n (lv' := [(3, .int (0 : Int32)), (2, .int (0 : Int32)), (0, .ref h0), (1, .int p1)]) hx hb dX0_isWholeTogether_27 rfl hl (by decide) rfl (fun ls hl => ?_)
      have KL12 : ∀ (fu : Nat) (y2_28 : Int32) (y3_28 : Int32) (hd : den_X0_isWholeTogether_L28 p1 v_first_many v_first_values v_first_wholeUpTo v_second_many v_second_values v_second_wholeUpTo fu y2_28 y3_28 = some r) (H : Heap) (locs : List Loc) (ls : Array Slot), va_P (dC, dI) vwCl [(h0, .inr (0, [.ref h1, .ref h4])), (h1, .inr (5, [.int v_first_many, .int v_first_leaderHeard, .ref h2, .ref h3])), (h2, .inl (cI, 8, .inl v_first_values)), (h3, .inl (cI, 8, .inl v_first_wholeUpTo)), (h4, .inr (5, [.int v_second_many, .int v_second_leaderHeard, .ref h5, .ref h6])), (h5, .inl (cI, 8, .inl v_second_values)), (h6, .inl (cI, 8, .inl v_second_wholeUpTo))] H → va_D A [(h0, .inr (0, [.ref h1, .ref h4])), (h1, .inr (5, [.int v_first_many, .int v_first_leaderHeard, .ref h2, .ref h3])), (h2, .inl (cI, 8, .inl v_first_values)), (h3, .inl (cI, 8, .inl v_first_wholeUpTo)), (h4, .inr (5, [.int v_second_many, .int v_second_leaderHeard, .ref h5, .ref h6])), (h5, .inl (cI, 8, .inl v_second_values)), (h6, .inl (cI, 8, .inl v_second_wholeUpTo))] → va_S A s.heap H locs → lv_has ls 5 [(0, .ref h0), (1, .int p1), (2, .int y2_28), (3, .int y3_28)] → W p l e rmX0_isWholeTogether s m args below meth c H locs 0 0 Q (F0 m 28 ls []) := by
        intro fu
        induction fu with
        | zero => intro y2_28 y3_28 hd; exact no_some hd
        | succ fu ih =>
          intro y2_28 y3_28 hd H locs ls hP hD hS hl
          rw [den_X0_isWholeTogether_L28] at hd
          refine lv_iload_n hx hb dX0_isWholeTogether_28 rfl (lv_at hl 3 rfl) ?_
          refine lv_aload_n hx hb dX0_isWholeTogether_29 rfl (lv_at hl 0 rfl) ?_
          refine va_get (D := (dC, dI)) (ci := 0) (v := .ref h1) (C := RX0) (T := TX0) (N := 2) hx hb hts inX0_isWholeTogether_X0 hown hK hP 0 rfl rfl 0 (by decide) (hts _ kX0_isWholeTogether_1) (fun _ h9 => h9) rfl dX0_isWholeTogether_30 ?_
          refine va_getN (D := (dC, dI)) (ci := 5) (v := .int v_first_many) (C := RX5) (T := TX5) (N := 4) hx hb hts inX0_isWholeTogether_X5 hown hK hP 1 rfl rfl 0 (by decide) (nx_9 hN) (fun _ h9 => h9) rfl dX0_isWholeTogether_33 ?_
          refine lv_icmp_ge (tgt := 67) hx hb dX0_isWholeTogether_36 (by decide) (fun c5 => ?_) (fun c5 => ?_)
          · replace hd := ite_t c5 hd
            refine lv_aload_n hx hb dX0_isWholeTogether_67 rfl (lv_at hl 0 rfl) ?_
            refine va_get (D := (dC, dI)) (ci := 0) (v := .ref h1) (C := RX0) (T := TX0) (N := 2) hx hb hts inX0_isWholeTogether_X0 hown hK hP 0 rfl rfl 0 (by decide) (hts _ kX0_isWholeTogether_1) (fun _ h9 => h9) rfl dX0_isWholeTogether_68 ?_
            refine lv_iload_n hx hb dX0_isWholeTogether_71 rfl (lv_at hl 2 rfl) ?_
            refine lv_iload_n hx hb dX0_isWholeTogether_72 rfl (lv_at hl 1 rfl) ?_
            obtain ⟨q6, hq6, hd⟩ := bnd_some hd
            have hPc : va_P (dC, dI) vwCl [(h1, .inr (5, [.int v_first_many, .int v_first_leaderHeard, .ref h2, .ref h3])), (h2, .inl (cI, 8, .inl v_first_values)), (h3, .inl (cI, 8, .inl v_first_wholeUpTo))] _ := hP.sub [1, 2, 3] rfl
            have hDc := hD.sub (ws' := [(h1, .inr (5, [.int v_first_many, .int v_first_leaderHeard, .ref h2, .ref h3])), (h2, .inl (cI, 8, .inl v_first_values)), (h3, .inl (cI, 8, .inl v_first_wholeUpTo))]) [1, 2, 3] (by decide) rfl
            have hFc := va_free (wc := [(h1, .inr (5, [.int v_first_many, .int v_first_leaderHeard, .ref h2, .ref h3])), (h2, .inl (cI, 8, .inl v_first_values)), (h3, .inl (cI, 8, .inl v_first_wholeUpTo))]) hD hS hA [1, 2, 3] rfl
            refine va_calli (va_runVN (As := [.int y2_28, .int p1]) (rest := []) ⟨hx, hb, hml, hown, hts⟩ (c_X5_tellsSum l dC dI cI cC cT cL h1 h2 h3 H.size v_first_many v_first_leaderHeard v_first_values v_first_wholeUpTo y2_28 p1 q6 hq6) ⟨(va_cnB 2 hts gX0_isWholeTogether_X5_tellsSum_n60 rfl rfl rfl (nxw_49 hN) (hts _ kX0_isWholeTogether_4) hp_X5_tellsSum ⟨Nat.le_of_ble_eq_true rfl, Nat.le_of_ble_eq_true rfl⟩), (hts _ kX0_isWholeTogether_20), (hts _ kX0_isWholeTogether_21)⟩ ⟨preB_fb, va_recv hK hPc (ci := 5) (q0 := 0) rfl rfl, fun U hU hW => preB_mk hU hW hPc hK hDc hN⟩ rfl rfl hl.1 rfl (lv_room (Nat.le_of_ble_eq_true rfl)) dX0_isWholeTogether_73 ⟨Nat.zero_le _, Nat.zero_le _⟩) hS (fun q _ h => hFc q h) hFc (fun r_ u_ t H locs ht hvm hw hB hz1 hk1 hS => ?_)
            have hw : r_ = q6 := hw
            have hw := hw.symm
            subst hw
            obtain ⟨hP, hD⟩ := x_join (ws' := [(h0, .inr (0, [.ref h1, .ref h4])), (h1, .inr (5, [.int v_first_many, .int v_first_leaderHeard, .ref h2, .ref h3])), (h2, .inl (cI, 8, .inl v_first_values)), (h3, .inl (cI, 8, .inl v_first_wholeUpTo)), (h4, .inr (5, [.int v_second_many, .int v_second_leaderHeard, .ref h5, .ref h6])), (h5, .inl (cI, 8, .inl v_second_values)), (h6, .inl (cI, 8, .inl v_second_wholeUpTo))]) hP hD [1, 2, 3] [0, 4, 5, 6] rfl rfl (by decide) (by decide) hk1 hFc ht hB [0, 4, 5, 6, 1, 2, 3] (by decide) rfl
            clear hPc hDc hFc hk1 hB ht hz1 hvm
            refine lv_if_ne (tgt := 91) hx hb dX0_isWholeTogether_76 (by decide) (fun c7 => ?_) (fun c7 => ?_)
            · replace hd := ite_f c7 hd
              refine lv_iconst (v := 1) hx hb dX0_isWholeTogether_91 (by decide) ?_
              refine lv_goto (tgt := 96) hx hb dX0_isWholeTogether_92 (by decide) ?_
              cases hd
              exact hend (by rfl) (by rfl) hP hD hS dX0_isWholeTogether_96
            · replace hd := ite_t c7 hd
              refine lv_aload_n hx hb dX0_isWholeTogether_79 rfl (lv_at hl 0 rfl) ?_
              refine va_get (D := (dC, dI)) (ci := 0) (v := .ref h4) (C := RX0) (T := TX0) (N := 2) hx hb hts inX0_isWholeTogether_X0 hown hK hP 0 rfl rfl 1 (by decide) (hts _ kX0_isWholeTogether_2) (fun _ h9 => h9) rfl dX0_isWholeTogether_80 ?_
              refine lv_iload_n hx hb dX0_isWholeTogether_83 rfl (lv_at hl 2 rfl) ?_
              refine lv_iload_n hx hb dX0_isWholeTogether_84 rfl (lv_at hl 1 rfl) ?_
              obtain ⟨q8, hq8, hd⟩ := bnd_some hd
              have hPc : va_P (dC, dI) vwCl [(h4, .inr (5, [.int v_second_many, .int v_second_leaderHeard, .ref h5, .ref h6])), (h5, .inl (cI, 8, .inl v_second_values)), (h6, .inl (cI, 8, .inl v_second_wholeUpTo))] _ := hP.sub [4, 5, 6] rfl
              have hDc := hD.sub (ws' := [(h4, .inr (5, [.int v_second_many, .int v_second_leaderHeard, .ref h5, .ref h6])), (h5, .inl (cI, 8, .inl v_second_values)), (h6, .inl (cI, 8, .inl v_second_wholeUpTo))]) [4, 5, 6] (by decide) rfl
              have hFc := va_free (wc := [(h4, .inr (5, [.int v_second_many, .int v_second_leaderHeard, .ref h5, .ref h6])), (h5, .inl (cI, 8, .inl v_second_values)), (h6, .inl (cI, 8, .inl v_second_wholeUpTo))]) hD hS hA [4, 5, 6] rfl
              refine va_calli (va_runVN (As := [.int y2_28, .int p1]) (rest := []) ⟨hx, hb, hml, hown, hts⟩ (c_X5_tellsSum l dC dI cI cC cT cL h4 h5 h6 H.size v_second_many v_second_leaderHeard v_second_values v_second_wholeUpTo y2_28 p1 q8 hq8) ⟨(va_cnB 2 hts gX0_isWholeTogether_X5_tellsSum_n60 rfl rfl rfl (nxw_49 hN) (hts _ kX0_isWholeTogether_4) hp_X5_tellsSum ⟨Nat.le_of_ble_eq_true rfl, Nat.le_of_ble_eq_true rfl⟩), (hts _ kX0_isWholeTogether_20), (hts _ kX0_isWholeTogether_21)⟩ ⟨preB_fb, va_recv hK hPc (ci := 5) (q0 := 0) rfl rfl, fun U hU hW => preB_mk hU hW hPc hK hDc hN⟩ rfl rfl hl.1 rfl (lv_room (Nat.le_of_ble_eq_true rfl)) dX0_isWholeTogether_85 ⟨Nat.zero_le _, Nat.zero_le _⟩) hS (fun q _ h => hFc q h) hFc (fun r_ u_ t H locs ht hvm hw hB hz1 hk1 hS => ?_)
              have hw : r_ = q8 := hw
              have hw := hw.symm
              subst hw
              obtain ⟨hP, hD⟩ := x_join (ws' := [(h0, .inr (0, [.ref h1, .ref h4])), (h1, .inr (5, [.int v_first_many, .int v_first_leaderHeard, .ref h2, .ref h3])), (h2, .inl (cI, 8, .inl v_first_values)), (h3, .inl (cI, 8, .inl v_first_wholeUpTo)), (h4, .inr (5, [.int v_second_many, .int v_second_leaderHeard, .ref h5, .ref h6])), (h5, .inl (cI, 8, .inl v_second_values)), (h6, .inl (cI, 8, .inl v_second_wholeUpTo))]) hP hD [4, 5, 6] [0, 1, 2, 3] rfl rfl (by decide) (by decide) hk1 hFc ht hB [0, 1, 2, 3, 4, 5, 6] (by decide) rfl
              clear hPc hDc hFc hk1 hB ht hz1 hvm
              refine lv_if_eq (tgt := 95) hx hb dX0_isWholeTogether_88 (by decide) (fun c9 => ?_) (fun c9 => ?_)
              · replace hd := ite_t c9 hd
                refine lv_iconst (v := 0) hx hb dX0_isWholeTogether_95 (by decide) ?_
                cases hd
                exact hend (by rfl) (by rfl) hP hD hS dX0_isWholeTogether_96
              · replace hd := ite_f c9 hd
                refine lv_iconst (v := 1) hx hb dX0_isWholeTogether_91 (by decide) ?_
                refine lv_goto (tgt := 96) hx hb dX0_isWholeTogether_92 (by decide) ?_
                cases hd
                exact hend (by rfl) (by rfl) hP hD hS dX0_isWholeTogether_96
          · replace hd := ite_f c5 hd
            refine lv_aload_n hx hb dX0_isWholeTogether_39 rfl (lv_at hl 0 rfl) ?_
            refine lv_iload_n hx hb dX0_isWholeTogether_40 rfl (lv_at hl 3 rfl) ?_
            refine lv_iload_n hx hb dX0_isWholeTogether_41 rfl (lv_at hl 1 rfl) ?_
            obtain ⟨q10, hq10, hd⟩ := bnd_some hd
            have hPc : va_P (dC, dI) vwCl [(h0, .inr (0, [.ref h1, .ref h4])), (h1, .inr (5, [.int v_first_many, .int v_first_leaderHeard, .ref h2, .ref h3])), (h2, .inl (cI, 8, .inl v_first_values)), (h3, .inl (cI, 8, .inl v_first_wholeUpTo)), (h4, .inr (5, [.int v_second_many, .int v_second_leaderHeard, .ref h5, .ref h6])), (h5, .inl (cI, 8, .inl v_second_values)), (h6, .inl (cI, 8, .inl v_second_wholeUpTo))] _ := hP.sub [0, 1, 2, 3, 4, 5, 6] rfl
            have hDc := hD.sub (ws' := [(h0, .inr (0, [.ref h1, .ref h4])), (h1, .inr (5, [.int v_first_many, .int v_first_leaderHeard, .ref h2, .ref h3])), (h2, .inl (cI, 8, .inl v_first_values)), (h3, .inl (cI, 8, .inl v_first_wholeUpTo)), (h4, .inr (5, [.int v_second_many, .int v_second_leaderHeard, .ref h5, .ref h6])), (h5, .inl (cI, 8, .inl v_second_values)), (h6, .inl (cI, 8, .inl v_second_wholeUpTo))]) [0, 1, 2, 3, 4, 5, 6] (by decide) rfl
            have hFc := va_free (wc := [(h0, .inr (0, [.ref h1, .ref h4])), (h1, .inr (5, [.int v_first_many, .int v_first_leaderHeard, .ref h2, .ref h3])), (h2, .inl (cI, 8, .inl v_first_values)), (h3, .inl (cI, 8, .inl v_first_wholeUpTo)), (h4, .inr (5, [.int v_second_many, .int v_second_leaderHeard, .ref h5, .ref h6])), (h5, .inl (cI, 8, .inl v_second_values)), (h6, .inl (cI, 8, .inl v_second_wholeUpTo))]) hD hS hA [0, 1, 2, 3, 4, 5, 6] rfl
            refine va_calli (va_runV (As := [.int y3_28, .int p1]) (rest := []) ⟨hx, hb, hml, hown, hts⟩ (c_X0_byteTogether l dC dI cI cC cT cL h0 h1 h2 h3 h4 h5 h6 H.size v_first_many v_first_leaderHeard v_first_values v_first_wholeUpTo v_second_many v_second_leaderHeard v_second_values v_second_wholeUpTo y3_28 p1 q10 hq10) (cwV 2 hts gX0_isWholeTogether_X0_byteTogether rfl rfl rfl hv_X0_byteTogether ⟨Nat.le_of_ble_eq_true rfl, Nat.le_of_ble_eq_true rfl⟩) ⟨preB_fb, va_recv hK hPc (ci := 0) (q0 := 0) rfl rfl, fun U hU hW => preB_mk hU hW hPc hK hDc hN⟩ rfl rfl hl.1 rfl (lv_room (Nat.le_of_ble_eq_true rfl)) dX0_isWholeTogether_42 ⟨Nat.zero_le _, Nat.zero_le _⟩) hS (fun q _ h => hFc q h) hFc (fun r_ u_ t H locs ht hvm hw hB hz1 hk1 hS => ?_)
            have hw : r_ = q10 := hw
            have hw := hw.symm
            subst hw
            obtain ⟨hP, hD⟩ := x_join (ws' := [(h0, .inr (0, [.ref h1, .ref h4])), (h1, .inr (5, [.int v_first_many, .int v_first_leaderHeard, .ref h2, .ref h3])), (h2, .inl (cI, 8, .inl v_first_values)), (h3, .inl (cI, 8, .inl v_first_wholeUpTo)), (h4, .inr (5, [.int v_second_many, .int v_second_leaderHeard, .ref h5, .ref h6])), (h5, .inl (cI, 8, .inl v_second_values)), (h6, .inl (cI, 8, .inl v_second_wholeUpTo))]) hP hD [0, 1, 2, 3, 4, 5, 6] [] rfl rfl (by decide) (by decide) hk1 hFc ht hB [0, 1, 2, 3, 4, 5, 6] (by decide) rfl
            clear hPc hDc hFc hk1 hB ht hz1 hvm
            refine lv_istore (lv' := [(4, .int q10), (0, .ref h0), (1, .int p1), (2, .int y2_28), (3, .int y3_28)]) hx hb dX0_isWholeTogether_45 hl (by decide) rfl (fun ls hl => ?_)
            refine lv_iload hx hb dX0_isWholeTogether_47 (lv_at hl 0 rfl) ?_
            refine lv_bipush (v := -6) hx hb dX0_isWholeTogether_49 (by decide) ?_
            refine lv_icmp_ne (tgt := 56) hx hb dX0_isWholeTogether_51 (by decide) (fun c11 => ?_) (fun c11 => ?_)
            · replace hd := ite_f c11 hd
              refine lv_iload_n hx hb dX0_isWholeTogether_56 rfl (lv_at hl 3 rfl) ?_
              refine lv_iload hx hb dX0_isWholeTogether_57 (lv_at hl 0 rfl) ?_
              refine lv_iadd hx hb dX0_isWholeTogether_59 ?_
              refine lv_istore_n (lv' := [(2, .int (y2_28 + q10)), (4, .int q10), (0, .ref h0), (1, .int p1), (3, .int y3_28)]) hx hb dX0_isWholeTogether_60 rfl hl (by decide) rfl (fun ls hl => ?_)
              refine lv_iinc (v := (y3_28 + (1 : Int32))) (lv' := [(3, .int (y3_28 + (1 : Int32))), (2, .int (y2_28 + q10)), (4, .int q10), (0, .ref h0), (1, .int p1)]) hx hb dX0_isWholeTogether_61 hl (k := 4) rfl (by first | rfl | decide) (by decide) rfl (fun ls hl => ?_)
              refine lv_goto (tgt := 28) hx hb dX0_isWholeTogether_64 (by decide) ?_
              exact ih (y2_28 + q10) (y3_28 + (1 : Int32)) hd _ _ _ hP hD hS (lv_sub hl [3, 4, 1, 0] rfl)
            · replace hd := ite_t c11 hd
              refine lv_iconst (v := 0) hx hb dX0_isWholeTogether_54 (by decide) ?_
              cases hd
              exact hend (by rfl) (by rfl) hP hD hS dX0_isWholeTogether_55
      exact KL12 FU (0 : Int32) (0 : Int32) hd _ _ _ hP hD hS (lv_sub hl [2, 3, 1, 0] rfl)
    · replace hd := ite_f c4 hd
      refine lv_iconst (v := 0) hx hb dX0_isWholeTogether_22 (by decide) ?_
      cases hd
      exact hend (by rfl) (by rfl) hP hD hS dX0_isWholeTogether_23
def rmX5_stateBy : Room := { frames := 3, cells := 0, slots := 0, locals := 65 }
theorem kX5_stateBy_1 : (Cond.fieldLink RX5 18 "CassetteTones$Telling" "many" "I") ∈ wsX5_stateBy := List.mem_of_getElem? (i := 1) (by decide +kernel)
theorem kX5_stateBy_2 : (Cond.fieldLink RX5 9 "CassetteTones$Telling" "values" "[I") ∈ wsX5_stateBy := List.mem_of_getElem? (i := 2) (by decide +kernel)
theorem kX5_stateBy_15 : (Cond.initialized RX6) ∈ wsX5_stateBy := List.mem_of_getElem? (i := 15) (by decide +kernel)
theorem kX5_stateBy_14 : (Cond.static yX6_valueAt) ∈ wsX5_stateBy := List.mem_of_getElem? (i := 14) (by decide +kernel)
theorem inX5_stateBy_X5 : ∀ w ∈ wsX50, w ∈ wsX5_stateBy := by decide +kernel
theorem hp_X5_stateBy : yX5_stateBy.cls ≠ "java/lang/invoke/MethodHandle" ∧ yX5_stateBy.cls ≠ "java/lang/invoke/VarHandle" ∧ (parseMethodDescriptor yX5_stateBy.desc).map (fun d => d.parameters.length) = some 1 := by decide +kernel
theorem hv_X5_stateBy : yX5_stateBy.cls = RX5 ∧ yX5_stateBy.cls ≠ "java/lang/invoke/MethodHandle" ∧ yX5_stateBy.cls ≠ "java/lang/invoke/VarHandle" ∧ (parseMethodDescriptor yX5_stateBy.desc).map (fun d => d.parameters.length) = some 1 := by decide +kernel
set_option maxHeartbeats 4000000 in
set_option maxRecDepth 100000 in
theorem c_X5_stateBy (l : Launch) (dC : Nat → ClassId) (dI : Nat → Nat → Nat) (cI cC cT cL : ClassId) (h0 h1 h2 : Nat) (sz : Nat) (v_many : Int32) (v_leaderHeard : Int32) (v_values : (Nat → Int32)) (v_wholeUpTo : (Nat → Int32)) (p1 : Int32) (r : Int32) (hd : den_X5_stateBy v_many v_leaderHeard v_values v_wholeUpTo p1 = some r) : Met l yX5_stateBy wsX5_stateBy rmX5_stateBy (va_Pc [.ref h0, .int p1] (preB sz (dC, dI) [(h0, .inr (5, [.int v_many, .int v_leaderHeard, .ref h1, .ref h2])), (h1, .inl (cI, 8, .inl v_values)), (h2, .inl (cI, 8, .inl v_wholeUpTo))] [(cI, .int), (cC, .char), (cT, .object "CassetteTones$Tape"), (cL, .long)])) (va_Qi (S := Unit) (fun v _ => v = r) (fun _ t => posB (dC, dI) [(h0, .inr (5, [.int v_many, .int v_leaderHeard, .ref h1, .ref h2])), (h1, .inl (cI, 8, .inl v_values)), (h2, .inl (cI, 8, .inl v_wholeUpTo))] [(cI, .int), (cC, .char), (cT, .object "CassetteTones$Tape"), (cL, .long)] (va_A [(h0, .inr (5, [.int v_many, .int v_leaderHeard, .ref h1, .ref h2])), (h1, .inl (cI, 8, .inl v_values)), (h2, .inl (cI, 8, .inl v_wholeUpTo))] sz) t) (va_A [(h0, .inr (5, [.int v_many, .int v_leaderHeard, .ref h1, .ref h2])), (h1, .inl (cI, 8, .inl v_values)), (h2, .inl (cI, 8, .inl v_wholeUpTo))] sz)) 0 0 (va_A [(h0, .inr (5, [.int v_many, .int v_leaderHeard, .ref h1, .ref h2])), (h1, .inl (cI, 8, .inl v_values)), (h2, .inl (cI, 8, .inl v_wholeUpTo))] sz) := by
  refine x_met_i (by decide) rfl (Nat.le_of_ble_eq_true rfl) ?_
  intro p e s m args below meth c A Q H locs ls hx hb hml hown hts hK hN hA hP hD hS hl hend
  have hown : s.vm.findClass RX5 = some m.cls := hown
  have hl : lv_has ls 4 [(0, .ref h0), (1, .int p1)] := hl
  unfold den_X5_stateBy at hd
  refine lv_aload_n hx hb dX5_stateBy_0 rfl (lv_at hl 0 rfl) ?_
  refine lv_iload_n hx hb dX5_stateBy_1 rfl (lv_at hl 1 rfl) ?_
  obtain ⟨q1, hq1, hd⟩ := bnd_some hd
  have hPc : va_P (dC, dI) vwCl [(h0, .inr (5, [.int v_many, .int v_leaderHeard, .ref h1, .ref h2]))] _ := hP.sub [0] rfl
  have hDc := hD.sub (ws' := [(h0, .inr (5, [.int v_many, .int v_leaderHeard, .ref h1, .ref h2]))]) [0] (by decide) rfl
  have hFc := va_free (wc := [(h0, .inr (5, [.int v_many, .int v_leaderHeard, .ref h1, .ref h2]))]) hD hS hA [0] rfl
  refine va_calli (va_runV (As := [.int p1]) (rest := []) ⟨hx, hb, hml, hown, hts⟩ (c_X5_isLost l dC dI cI cC cT cL h0 h1 h2 H.size v_many v_leaderHeard p1 q1 hq1) (cwV 1 hts gX5_stateBy_X5_isLost rfl rfl rfl hv_X5_isLost ⟨Nat.le_of_ble_eq_true rfl, Nat.le_of_ble_eq_true rfl⟩) ⟨preB_fb, va_recv hK hPc (ci := 5) (q0 := 0) rfl rfl, fun U hU hW => preB_mk hU hW hPc hK hDc hN⟩ rfl rfl hl.1 rfl (lv_room (Nat.le_of_ble_eq_true rfl)) dX5_stateBy_2 ⟨Nat.zero_le _, Nat.zero_le _⟩) hS (fun q _ h => hFc q h) hFc (fun r_ u_ t H locs ht hvm hw hB hz1 hk1 hS => ?_)
  have hw : r_ = q1 := hw
  have hw := hw.symm
  subst hw
  obtain ⟨hP, hD⟩ := x_join (ws' := [(h0, .inr (5, [.int v_many, .int v_leaderHeard, .ref h1, .ref h2])), (h1, .inl (cI, 8, .inl v_values)), (h2, .inl (cI, 8, .inl v_wholeUpTo))]) hP hD [0] [1, 2] rfl rfl (by decide) (by decide) hk1 hFc ht hB [2, 0, 1] (by decide) rfl
  clear hPc hDc hFc hk1 hB ht hz1 hvm
  refine lv_if_eq (tgt := 10) hx hb dX5_stateBy_5 (by decide) (fun c2 => ?_) (fun c2 => ?_)
  · replace hd := ite_t c2 hd
    refine lv_iconst (v := 0) hx hb dX5_stateBy_10 (by decide) ?_
    refine lv_istore_n (lv' := [(2, .int (0 : Int32)), (0, .ref h0), (1, .int p1)]) hx hb dX5_stateBy_11 rfl hl (by decide) rfl (fun ls hl => ?_)
    refine lv_iconst (v := 0) hx hb dX5_stateBy_12 (by decide) ?_
    refine lv_istore_n (lv' := [(3, .int (0 : Int32)), (2, .int (0 : Int32)), (0, .ref h0), (1, .int p1)]) hx hb dX5_stateBy_13 rfl hl (by decide) rfl (fun ls hl => ?_)
    have KL9 : ∀ (fu : Nat) (y2_14 : Int32) (y3_14 : Int32) (hd : den_X5_stateBy_L14 p1 v_many v_values v_wholeUpTo fu y2_14 y3_14 = some r) (H : Heap) (locs : List Loc) (ls : Array Slot), va_P (dC, dI) vwCl [(h0, .inr (5, [.int v_many, .int v_leaderHeard, .ref h1, .ref h2])), (h1, .inl (cI, 8, .inl v_values)), (h2, .inl (cI, 8, .inl v_wholeUpTo))] H → va_D A [(h0, .inr (5, [.int v_many, .int v_leaderHeard, .ref h1, .ref h2])), (h1, .inl (cI, 8, .inl v_values)), (h2, .inl (cI, 8, .inl v_wholeUpTo))] → va_S A s.heap H locs → lv_has ls 4 [(0, .ref h0), (1, .int p1), (2, .int y2_14), (3, .int y3_14)] → W p l e rmX5_stateBy s m args below meth c H locs 0 0 Q (F0 m 14 ls []) := by
      intro fu
      induction fu with
      | zero => intro y2_14 y3_14 hd; exact no_some hd
      | succ fu ih =>
        intro y2_14 y3_14 hd H locs ls hP hD hS hl
        rw [den_X5_stateBy_L14] at hd
        refine lv_iload_n hx hb dX5_stateBy_14 rfl (lv_at hl 3 rfl) ?_
        refine lv_aload_n hx hb dX5_stateBy_15 rfl (lv_at hl 0 rfl) ?_
        refine va_get (D := (dC, dI)) (ci := 5) (v := .int v_many) (C := RX5) (T := TX5) (N := 4) hx hb hts inX5_stateBy_X5 hown hK hP 0 rfl rfl 0 (by decide) (hts _ kX5_stateBy_1) (fun _ h9 => h9) rfl dX5_stateBy_16 ?_
        refine lv_icmp_ge (tgt := 50) hx hb dX5_stateBy_19 (by decide) (fun c3 => ?_) (fun c3 => ?_)
        · replace hd := ite_t c3 hd
          refine lv_aload_n hx hb dX5_stateBy_50 rfl (lv_at hl 0 rfl) ?_
          refine lv_iload_n hx hb dX5_stateBy_51 rfl (lv_at hl 2 rfl) ?_
          refine lv_iload_n hx hb dX5_stateBy_52 rfl (lv_at hl 1 rfl) ?_
          obtain ⟨q4, hq4, hd⟩ := bnd_some hd
          have hPc : va_P (dC, dI) vwCl [(h0, .inr (5, [.int v_many, .int v_leaderHeard, .ref h1, .ref h2])), (h1, .inl (cI, 8, .inl v_values)), (h2, .inl (cI, 8, .inl v_wholeUpTo))] _ := hP.sub [0, 1, 2] rfl
          have hDc := hD.sub (ws' := [(h0, .inr (5, [.int v_many, .int v_leaderHeard, .ref h1, .ref h2])), (h1, .inl (cI, 8, .inl v_values)), (h2, .inl (cI, 8, .inl v_wholeUpTo))]) [0, 1, 2] (by decide) rfl
          have hFc := va_free (wc := [(h0, .inr (5, [.int v_many, .int v_leaderHeard, .ref h1, .ref h2])), (h1, .inl (cI, 8, .inl v_values)), (h2, .inl (cI, 8, .inl v_wholeUpTo))]) hD hS hA [0, 1, 2] rfl
          refine va_calli (va_runV (As := [.int y2_14, .int p1]) (rest := []) ⟨hx, hb, hml, hown, hts⟩ (c_X5_tellsSum l dC dI cI cC cT cL h0 h1 h2 H.size v_many v_leaderHeard v_values v_wholeUpTo y2_14 p1 q4 hq4) (cwV 2 hts gX5_stateBy_X5_tellsSum rfl rfl rfl hv_X5_tellsSum ⟨Nat.le_of_ble_eq_true rfl, Nat.le_of_ble_eq_true rfl⟩) ⟨preB_fb, va_recv hK hPc (ci := 5) (q0 := 0) rfl rfl, fun U hU hW => preB_mk hU hW hPc hK hDc hN⟩ rfl rfl hl.1 rfl (lv_room (Nat.le_of_ble_eq_true rfl)) dX5_stateBy_53 ⟨Nat.zero_le _, Nat.zero_le _⟩) hS (fun q _ h => hFc q h) hFc (fun r_ u_ t H locs ht hvm hw hB hz1 hk1 hS => ?_)
          have hw : r_ = q4 := hw
          have hw := hw.symm
          subst hw
          obtain ⟨hP, hD⟩ := x_join (ws' := [(h0, .inr (5, [.int v_many, .int v_leaderHeard, .ref h1, .ref h2])), (h1, .inl (cI, 8, .inl v_values)), (h2, .inl (cI, 8, .inl v_wholeUpTo))]) hP hD [0, 1, 2] [] rfl rfl (by decide) (by decide) hk1 hFc ht hB [0, 1, 2] (by decide) rfl
          clear hPc hDc hFc hk1 hB ht hz1 hvm
          refine lv_if_eq (tgt := 63) hx hb dX5_stateBy_56 (by decide) (fun c5 => ?_) (fun c5 => ?_)
          · replace hd := ite_t c5 hd
            refine lv_iconst (v := 3) hx hb dX5_stateBy_63 (by decide) ?_
            cases hd
            exact hend (by rfl) hP hD hS dX5_stateBy_64
          · replace hd := ite_f c5 hd
            refine lv_iconst (v := 0) hx hb dX5_stateBy_59 (by decide) ?_
            refine lv_goto (tgt := 64) hx hb dX5_stateBy_60 (by decide) ?_
            cases hd
            exact hend (by rfl) hP hD hS dX5_stateBy_64
        · replace hd := ite_f c3 hd
          refine lv_aload_n hx hb dX5_stateBy_22 rfl (lv_at hl 0 rfl) ?_
          refine lv_iload_n hx hb dX5_stateBy_23 rfl (lv_at hl 3 rfl) ?_
          refine lv_iload_n hx hb dX5_stateBy_24 rfl (lv_at hl 1 rfl) ?_
          obtain ⟨q6, hq6, hd⟩ := bnd_some hd
          have hPc : va_P (dC, dI) vwCl [(h0, .inr (5, [.int v_many, .int v_leaderHeard, .ref h1, .ref h2])), (h2, .inl (cI, 8, .inl v_wholeUpTo))] _ := hP.sub [0, 2] rfl
          have hDc := hD.sub (ws' := [(h0, .inr (5, [.int v_many, .int v_leaderHeard, .ref h1, .ref h2])), (h2, .inl (cI, 8, .inl v_wholeUpTo))]) [0, 2] (by decide) rfl
          have hFc := va_free (wc := [(h0, .inr (5, [.int v_many, .int v_leaderHeard, .ref h1, .ref h2])), (h2, .inl (cI, 8, .inl v_wholeUpTo))]) hD hS hA [0, 2] rfl
          refine va_calli (va_runV (As := [.int y3_14, .int p1]) (rest := []) ⟨hx, hb, hml, hown, hts⟩ (c_X5_isByteWhole l dC dI cI cC cT cL h0 h1 h2 H.size v_many v_leaderHeard v_wholeUpTo y3_14 p1 q6 hq6) (cwV 2 hts gX5_stateBy_X5_isByteWhole rfl rfl rfl hv_X5_isByteWhole ⟨Nat.le_of_ble_eq_true rfl, Nat.le_of_ble_eq_true rfl⟩) ⟨preB_fb, va_recv hK hPc (ci := 5) (q0 := 0) rfl rfl, fun U hU hW => preB_mk hU hW hPc hK hDc hN⟩ rfl rfl hl.1 rfl (lv_room (Nat.le_of_ble_eq_true rfl)) dX5_stateBy_25 ⟨Nat.zero_le _, Nat.zero_le _⟩) hS (fun q _ h => hFc q h) hFc (fun r_ u_ t H locs ht hvm hw hB hz1 hk1 hS => ?_)
          have hw : r_ = q6 := hw
          have hw := hw.symm
          subst hw
          obtain ⟨hP, hD⟩ := x_join (ws' := [(h0, .inr (5, [.int v_many, .int v_leaderHeard, .ref h1, .ref h2])), (h1, .inl (cI, 8, .inl v_values)), (h2, .inl (cI, 8, .inl v_wholeUpTo))]) hP hD [0, 2] [1] rfl rfl (by decide) (by decide) hk1 hFc ht hB [1, 0, 2] (by decide) rfl
          clear hPc hDc hFc hk1 hB ht hz1 hvm
          refine lv_if_ne (tgt := 33) hx hb dX5_stateBy_28 (by decide) (fun c7 => ?_) (fun c7 => ?_)
          · replace hd := ite_f c7 hd
            refine lv_iload_n hx hb dX5_stateBy_33 rfl (lv_at hl 2 rfl) ?_
            refine lv_aload_n hx hb dX5_stateBy_34 rfl (lv_at hl 0 rfl) ?_
            refine va_get (D := (dC, dI)) (ci := 5) (v := .ref h1) (C := RX5) (T := TX5) (N := 4) hx hb hts inX5_stateBy_X5 hown hK hP 0 rfl rfl 2 (by decide) (hts _ kX5_stateBy_2) (fun _ h9 => h9) rfl dX5_stateBy_35 ?_
            refine lv_iload_n hx hb dX5_stateBy_38 rfl (lv_at hl 3 rfl) ?_
            obtain ⟨g8, hd⟩ := gd_some hd
            have hPc : va_P (dC, dI) vwCl [(h1, .inl (cI, 8, .inl v_values))] _ := hP.sub [1] rfl
            have hDc := hD.sub (ws' := [(h1, .inl (cI, 8, .inl v_values))]) [1] (by decide) rfl
            have hFc := va_free (wc := [(h1, .inl (cI, 8, .inl v_values))]) hD hS hA [1] rfl
            refine va_calli (va_runSN (As := [.ref h1, .int y3_14]) (rest := [.int y2_14]) ⟨hx, hb, hml, hown, hts⟩ (c_X6_valueAt l dC dI cI cC cT cL h1 8 H.size v_values y3_14 (v_values y3_14.toNatClampNeg) (i_X6_valueAt (Nat.le_of_ble_eq_true rfl) g8 rfl)) ⟨(va_cnB 2 hts gX5_stateBy_X6_valueAt_n35 rfl rfl rfl (nxw_39 hN) (hts _ kX5_stateBy_15) hp_X6_valueAt ⟨Nat.le_of_ble_eq_true rfl, Nat.le_of_ble_eq_true rfl⟩), (hts _ kX5_stateBy_14), trivial⟩ ⟨preB_fb, fun U hU hW => preB_mk hU hW hPc hK hDc hN⟩ rfl rfl hl.1 rfl (lv_room (Nat.le_of_ble_eq_true rfl)) dX5_stateBy_39 ⟨Nat.zero_le _, Nat.zero_le _⟩) hS (fun q _ h => hFc q h) hFc (fun r_ u_ t H locs ht hvm hw hB hz1 hk1 hS => ?_)
            have hw : r_ = (v_values y3_14.toNatClampNeg) := hw
            have hw := hw.symm
            subst hw
            obtain ⟨hP, hD⟩ := x_join (ws' := [(h0, .inr (5, [.int v_many, .int v_leaderHeard, .ref h1, .ref h2])), (h1, .inl (cI, 8, .inl v_values)), (h2, .inl (cI, 8, .inl v_wholeUpTo))]) hP hD [1] [0, 2] rfl rfl (by decide) (by decide) hk1 hFc ht hB [0, 2, 1] (by decide) rfl
            clear hPc hDc hFc hk1 hB ht hz1 hvm
            refine lv_iadd hx hb dX5_stateBy_42 ?_
            refine lv_istore_n (lv' := [(2, .int (y2_14 + (v_values y3_14.toNatClampNeg))), (0, .ref h0), (1, .int p1), (3, .int y3_14)]) hx hb dX5_stateBy_43 rfl hl (by decide) rfl (fun ls hl => ?_)
            refine lv_iinc (v := (y3_14 + (1 : Int32))) (lv' := [(3, .int (y3_14 + (1 : Int32))), (2, .int (y2_14 + (v_values y3_14.toNatClampNeg))), (0, .ref h0), (1, .int p1)]) hx hb dX5_stateBy_44 hl (k := 3) rfl (by first | rfl | decide) (by decide) rfl (fun ls hl => ?_)
            refine lv_goto (tgt := 14) hx hb dX5_stateBy_47 (by decide) ?_
            exact ih (y2_14 + (v_values y3_14.toNatClampNeg)) (y3_14 + (1 : Int32)) hd _ _ _ hP hD hS (lv_sub hl [2, 3, 1, 0] rfl)
          · replace hd := ite_t c7 hd
            refine lv_iconst (v := 2) hx hb dX5_stateBy_31 (by decide) ?_
            cases hd
            exact hend (by rfl) hP hD hS dX5_stateBy_32
    exact KL9 FU (0 : Int32) (0 : Int32) hd _ _ _ hP hD hS (lv_sub hl [2, 3, 1, 0] rfl)
  · replace hd := ite_f c2 hd
    refine lv_iconst (v := 1) hx hb dX5_stateBy_8 (by decide) ?_
    cases hd
    exact hend (by rfl) hP hD hS dX5_stateBy_9
def rmX0_wayBy : Room := { frames := 4, cells := 0, slots := 0, locals := 89 }
theorem kX0_wayBy_1 : (Cond.fieldLink RX0 12 "CassetteTones$BlockReader" "first" "LCassetteTones$Telling;") ∈ wsX0_wayBy := List.mem_of_getElem? (i := 1) (by decide +kernel)
theorem kX0_wayBy_4 : (Cond.initialized RX5) ∈ wsX0_wayBy := List.mem_of_getElem? (i := 4) (by decide +kernel)
theorem kX0_wayBy_3 : (Cond.instanceMethod yX5_stateBy) ∈ wsX0_wayBy := List.mem_of_getElem? (i := 3) (by decide +kernel)
theorem kX0_wayBy_5 : (Cond.selects RX5 yX5_stateBy yX5_stateBy) ∈ wsX0_wayBy := List.mem_of_getElem? (i := 5) (by decide +kernel)
theorem kX0_wayBy_2 : (Cond.fieldLink RX0 18 "CassetteTones$BlockReader" "second" "LCassetteTones$Telling;") ∈ wsX0_wayBy := List.mem_of_getElem? (i := 2) (by decide +kernel)
theorem inX0_wayBy_X0 : ∀ w ∈ wsX00, w ∈ wsX0_wayBy := by decide +kernel
theorem hp_X0_wayBy : yX0_wayBy.cls ≠ "java/lang/invoke/MethodHandle" ∧ yX0_wayBy.cls ≠ "java/lang/invoke/VarHandle" ∧ (parseMethodDescriptor yX0_wayBy.desc).map (fun d => d.parameters.length) = some 1 := by decide +kernel
theorem hv_X0_wayBy : yX0_wayBy.cls = RX0 ∧ yX0_wayBy.cls ≠ "java/lang/invoke/MethodHandle" ∧ yX0_wayBy.cls ≠ "java/lang/invoke/VarHandle" ∧ (parseMethodDescriptor yX0_wayBy.desc).map (fun d => d.parameters.length) = some 1 := by decide +kernel
set_option maxHeartbeats 4000000 in
set_option maxRecDepth 100000 in
theorem c_X0_wayBy (l : Launch) (dC : Nat → ClassId) (dI : Nat → Nat → Nat) (cI cC cT cL : ClassId) (h0 h1 h2 h3 h4 h5 h6 : Nat) (sz : Nat) (v_first_many : Int32) (v_first_leaderHeard : Int32) (v_first_values : (Nat → Int32)) (v_first_wholeUpTo : (Nat → Int32)) (v_second_many : Int32) (v_second_leaderHeard : Int32) (v_second_values : (Nat → Int32)) (v_second_wholeUpTo : (Nat → Int32)) (p1 : Int32) (r : Int32) (hd : den_X0_wayBy v_first_many v_first_leaderHeard v_first_values v_first_wholeUpTo v_second_many v_second_leaderHeard v_second_values v_second_wholeUpTo p1 = some r) : Met l yX0_wayBy wsX0_wayBy rmX0_wayBy (va_Pc [.ref h0, .int p1] (preB sz (dC, dI) [(h0, .inr (0, [.ref h1, .ref h4])), (h1, .inr (5, [.int v_first_many, .int v_first_leaderHeard, .ref h2, .ref h3])), (h2, .inl (cI, 8, .inl v_first_values)), (h3, .inl (cI, 8, .inl v_first_wholeUpTo)), (h4, .inr (5, [.int v_second_many, .int v_second_leaderHeard, .ref h5, .ref h6])), (h5, .inl (cI, 8, .inl v_second_values)), (h6, .inl (cI, 8, .inl v_second_wholeUpTo))] [(cI, .int), (cC, .char), (cT, .object "CassetteTones$Tape"), (cL, .long)])) (va_Qi (S := Unit) (fun v _ => v = r) (fun _ t => posB (dC, dI) [(h0, .inr (0, [.ref h1, .ref h4])), (h1, .inr (5, [.int v_first_many, .int v_first_leaderHeard, .ref h2, .ref h3])), (h2, .inl (cI, 8, .inl v_first_values)), (h3, .inl (cI, 8, .inl v_first_wholeUpTo)), (h4, .inr (5, [.int v_second_many, .int v_second_leaderHeard, .ref h5, .ref h6])), (h5, .inl (cI, 8, .inl v_second_values)), (h6, .inl (cI, 8, .inl v_second_wholeUpTo))] [(cI, .int), (cC, .char), (cT, .object "CassetteTones$Tape"), (cL, .long)] (va_A [(h0, .inr (0, [.ref h1, .ref h4])), (h1, .inr (5, [.int v_first_many, .int v_first_leaderHeard, .ref h2, .ref h3])), (h2, .inl (cI, 8, .inl v_first_values)), (h3, .inl (cI, 8, .inl v_first_wholeUpTo)), (h4, .inr (5, [.int v_second_many, .int v_second_leaderHeard, .ref h5, .ref h6])), (h5, .inl (cI, 8, .inl v_second_values)), (h6, .inl (cI, 8, .inl v_second_wholeUpTo))] sz) t) (va_A [(h0, .inr (0, [.ref h1, .ref h4])), (h1, .inr (5, [.int v_first_many, .int v_first_leaderHeard, .ref h2, .ref h3])), (h2, .inl (cI, 8, .inl v_first_values)), (h3, .inl (cI, 8, .inl v_first_wholeUpTo)), (h4, .inr (5, [.int v_second_many, .int v_second_leaderHeard, .ref h5, .ref h6])), (h5, .inl (cI, 8, .inl v_second_values)), (h6, .inl (cI, 8, .inl v_second_wholeUpTo))] sz)) 0 0 (va_A [(h0, .inr (0, [.ref h1, .ref h4])), (h1, .inr (5, [.int v_first_many, .int v_first_leaderHeard, .ref h2, .ref h3])), (h2, .inl (cI, 8, .inl v_first_values)), (h3, .inl (cI, 8, .inl v_first_wholeUpTo)), (h4, .inr (5, [.int v_second_many, .int v_second_leaderHeard, .ref h5, .ref h6])), (h5, .inl (cI, 8, .inl v_second_values)), (h6, .inl (cI, 8, .inl v_second_wholeUpTo))] sz) := by
  refine x_met_i (by decide) rfl (Nat.le_of_ble_eq_true rfl) ?_
  intro p e s m args below meth c A Q H locs ls hx hb hml hown hts hK hN hA hP hD hS hl hend
  have hown : s.vm.findClass RX0 = some m.cls := hown
  have hl : lv_has ls 2 [(0, .ref h0), (1, .int p1)] := hl
  unfold den_X0_wayBy at hd
  refine lv_aload_n hx hb dX0_wayBy_0 rfl (lv_at hl 0 rfl) ?_
  refine va_get (D := (dC, dI)) (ci := 0) (v := .ref h1) (C := RX0) (T := TX0) (N := 2) hx hb hts inX0_wayBy_X0 hown hK hP 0 rfl rfl 0 (by decide) (hts _ kX0_wayBy_1) (fun _ h9 => h9) rfl dX0_wayBy_1 ?_
  refine lv_iload_n hx hb dX0_wayBy_4 rfl (lv_at hl 1 rfl) ?_
  obtain ⟨q1, hq1, hd⟩ := bnd_some hd
  have hPc : va_P (dC, dI) vwCl [(h1, .inr (5, [.int v_first_many, .int v_first_leaderHeard, .ref h2, .ref h3])), (h2, .inl (cI, 8, .inl v_first_values)), (h3, .inl (cI, 8, .inl v_first_wholeUpTo))] _ := hP.sub [1, 2, 3] rfl
  have hDc := hD.sub (ws' := [(h1, .inr (5, [.int v_first_many, .int v_first_leaderHeard, .ref h2, .ref h3])), (h2, .inl (cI, 8, .inl v_first_values)), (h3, .inl (cI, 8, .inl v_first_wholeUpTo))]) [1, 2, 3] (by decide) rfl
  have hFc := va_free (wc := [(h1, .inr (5, [.int v_first_many, .int v_first_leaderHeard, .ref h2, .ref h3])), (h2, .inl (cI, 8, .inl v_first_values)), (h3, .inl (cI, 8, .inl v_first_wholeUpTo))]) hD hS hA [1, 2, 3] rfl
  refine va_calli (va_runVN (As := [.int p1]) (rest := []) ⟨hx, hb, hml, hown, hts⟩ (c_X5_stateBy l dC dI cI cC cT cL h1 h2 h3 H.size v_first_many v_first_leaderHeard v_first_values v_first_wholeUpTo p1 q1 hq1) ⟨(va_cnB 1 hts gX0_wayBy_X5_stateBy_n42 rfl rfl rfl (nxw_46 hN) (hts _ kX0_wayBy_4) hp_X5_stateBy ⟨Nat.le_of_ble_eq_true rfl, Nat.le_of_ble_eq_true rfl⟩), (hts _ kX0_wayBy_3), (hts _ kX0_wayBy_5)⟩ ⟨preB_fb, va_recv hK hPc (ci := 5) (q0 := 0) rfl rfl, fun U hU hW => preB_mk hU hW hPc hK hDc hN⟩ rfl rfl hl.1 rfl (lv_room (Nat.le_of_ble_eq_true rfl)) dX0_wayBy_5 ⟨Nat.zero_le _, Nat.zero_le _⟩) hS (fun q _ h => hFc q h) hFc (fun r_ u_ t H locs ht hvm hw hB hz1 hk1 hS => ?_)
  have hw : r_ = q1 := hw
  have hw := hw.symm
  subst hw
  obtain ⟨hP, hD⟩ := x_join (ws' := [(h0, .inr (0, [.ref h1, .ref h4])), (h1, .inr (5, [.int v_first_many, .int v_first_leaderHeard, .ref h2, .ref h3])), (h2, .inl (cI, 8, .inl v_first_values)), (h3, .inl (cI, 8, .inl v_first_wholeUpTo)), (h4, .inr (5, [.int v_second_many, .int v_second_leaderHeard, .ref h5, .ref h6])), (h5, .inl (cI, 8, .inl v_second_values)), (h6, .inl (cI, 8, .inl v_second_wholeUpTo))]) hP hD [1, 2, 3] [0, 4, 5, 6] rfl rfl (by decide) (by decide) hk1 hFc ht hB [0, 4, 5, 6, 1, 2, 3] (by decide) rfl
  clear hPc hDc hFc hk1 hB ht hz1 hvm
  refine lv_if_ne (tgt := 13) hx hb dX0_wayBy_8 (by decide) (fun c2 => ?_) (fun c2 => ?_)
  · replace hd := ite_f c2 hd
    refine lv_aload_n hx hb dX0_wayBy_13 rfl (lv_at hl 0 rfl) ?_
    refine va_get (D := (dC, dI)) (ci := 0) (v := .ref h4) (C := RX0) (T := TX0) (N := 2) hx hb hts inX0_wayBy_X0 hown hK hP 0 rfl rfl 1 (by decide) (hts _ kX0_wayBy_2) (fun _ h9 => h9) rfl dX0_wayBy_14 ?_
    refine lv_iload_n hx hb dX0_wayBy_17 rfl (lv_at hl 1 rfl) ?_
    obtain ⟨q3, hq3, hd⟩ := bnd_some hd
    have hPc : va_P (dC, dI) vwCl [(h4, .inr (5, [.int v_second_many, .int v_second_leaderHeard, .ref h5, .ref h6])), (h5, .inl (cI, 8, .inl v_second_values)), (h6, .inl (cI, 8, .inl v_second_wholeUpTo))] _ := hP.sub [4, 5, 6] rfl
    have hDc := hD.sub (ws' := [(h4, .inr (5, [.int v_second_many, .int v_second_leaderHeard, .ref h5, .ref h6])), (h5, .inl (cI, 8, .inl v_second_values)), (h6, .inl (cI, 8, .inl v_second_wholeUpTo))]) [4, 5, 6] (by decide) rfl
    have hFc := va_free (wc := [(h4, .inr (5, [.int v_second_many, .int v_second_leaderHeard, .ref h5, .ref h6])), (h5, .inl (cI, 8, .inl v_second_values)), (h6, .inl (cI, 8, .inl v_second_wholeUpTo))]) hD hS hA [4, 5, 6] rfl
    refine va_calli (va_runVN (As := [.int p1]) (rest := []) ⟨hx, hb, hml, hown, hts⟩ (c_X5_stateBy l dC dI cI cC cT cL h4 h5 h6 H.size v_second_many v_second_leaderHeard v_second_values v_second_wholeUpTo p1 q3 hq3) ⟨(va_cnB 1 hts gX0_wayBy_X5_stateBy_n42 rfl rfl rfl (nxw_46 hN) (hts _ kX0_wayBy_4) hp_X5_stateBy ⟨Nat.le_of_ble_eq_true rfl, Nat.le_of_ble_eq_true rfl⟩), (hts _ kX0_wayBy_3), (hts _ kX0_wayBy_5)⟩ ⟨preB_fb, va_recv hK hPc (ci := 5) (q0 := 0) rfl rfl, fun U hU hW => preB_mk hU hW hPc hK hDc hN⟩ rfl rfl hl.1 rfl (lv_room (Nat.le_of_ble_eq_true rfl)) dX0_wayBy_18 ⟨Nat.zero_le _, Nat.zero_le _⟩) hS (fun q _ h => hFc q h) hFc (fun r_ u_ t H locs ht hvm hw hB hz1 hk1 hS => ?_)
    have hw : r_ = q3 := hw
    have hw := hw.symm
    subst hw
    obtain ⟨hP, hD⟩ := x_join (ws' := [(h0, .inr (0, [.ref h1, .ref h4])), (h1, .inr (5, [.int v_first_many, .int v_first_leaderHeard, .ref h2, .ref h3])), (h2, .inl (cI, 8, .inl v_first_values)), (h3, .inl (cI, 8, .inl v_first_wholeUpTo)), (h4, .inr (5, [.int v_second_many, .int v_second_leaderHeard, .ref h5, .ref h6])), (h5, .inl (cI, 8, .inl v_second_values)), (h6, .inl (cI, 8, .inl v_second_wholeUpTo))]) hP hD [4, 5, 6] [0, 1, 2, 3] rfl rfl (by decide) (by decide) hk1 hFc ht hB [0, 1, 2, 3, 4, 5, 6] (by decide) rfl
    clear hPc hDc hFc hk1 hB ht hz1 hvm
    refine lv_if_ne (tgt := 26) hx hb dX0_wayBy_21 (by decide) (fun c4 => ?_) (fun c4 => ?_)
    · replace hd := ite_f c4 hd
      refine lv_aload_n hx hb dX0_wayBy_26 rfl (lv_at hl 0 rfl) ?_
      refine lv_iload_n hx hb dX0_wayBy_27 rfl (lv_at hl 1 rfl) ?_
      obtain ⟨q5, hq5, hd⟩ := bnd_some hd
      have hPc : va_P (dC, dI) vwCl [(h0, .inr (0, [.ref h1, .ref h4])), (h1, .inr (5, [.int v_first_many, .int v_first_leaderHeard, .ref h2, .ref h3])), (h2, .inl (cI, 8, .inl v_first_values)), (h3, .inl (cI, 8, .inl v_first_wholeUpTo)), (h4, .inr (5, [.int v_second_many, .int v_second_leaderHeard, .ref h5, .ref h6])), (h5, .inl (cI, 8, .inl v_second_values)), (h6, .inl (cI, 8, .inl v_second_wholeUpTo))] _ := hP.sub [0, 1, 2, 3, 4, 5, 6] rfl
      have hDc := hD.sub (ws' := [(h0, .inr (0, [.ref h1, .ref h4])), (h1, .inr (5, [.int v_first_many, .int v_first_leaderHeard, .ref h2, .ref h3])), (h2, .inl (cI, 8, .inl v_first_values)), (h3, .inl (cI, 8, .inl v_first_wholeUpTo)), (h4, .inr (5, [.int v_second_many, .int v_second_leaderHeard, .ref h5, .ref h6])), (h5, .inl (cI, 8, .inl v_second_values)), (h6, .inl (cI, 8, .inl v_second_wholeUpTo))]) [0, 1, 2, 3, 4, 5, 6] (by decide) rfl
      have hFc := va_free (wc := [(h0, .inr (0, [.ref h1, .ref h4])), (h1, .inr (5, [.int v_first_many, .int v_first_leaderHeard, .ref h2, .ref h3])), (h2, .inl (cI, 8, .inl v_first_values)), (h3, .inl (cI, 8, .inl v_first_wholeUpTo)), (h4, .inr (5, [.int v_second_many, .int v_second_leaderHeard, .ref h5, .ref h6])), (h5, .inl (cI, 8, .inl v_second_values)), (h6, .inl (cI, 8, .inl v_second_wholeUpTo))]) hD hS hA [0, 1, 2, 3, 4, 5, 6] rfl
      refine va_calli (va_runV (As := [.int p1]) (rest := []) ⟨hx, hb, hml, hown, hts⟩ (c_X0_isWholeTogether l dC dI cI cC cT cL h0 h1 h2 h3 h4 h5 h6 H.size v_first_many v_first_leaderHeard v_first_values v_first_wholeUpTo v_second_many v_second_leaderHeard v_second_values v_second_wholeUpTo p1 q5 hq5) (cwV 1 hts gX0_wayBy_X0_isWholeTogether rfl rfl rfl hv_X0_isWholeTogether ⟨Nat.le_of_ble_eq_true rfl, Nat.le_of_ble_eq_true rfl⟩) ⟨preB_fb, va_recv hK hPc (ci := 0) (q0 := 0) rfl rfl, fun U hU hW => preB_mk hU hW hPc hK hDc hN⟩ rfl rfl hl.1 rfl (lv_room (Nat.le_of_ble_eq_true rfl)) dX0_wayBy_28 ⟨Nat.zero_le _, Nat.zero_le _⟩) hS (fun q _ h => hFc q h) hFc (fun r_ u_ t H locs ht hvm hw hB hz1 hk1 hS => ?_)
      have hw : r_ = q5 := hw
      have hw := hw.symm
      subst hw
      obtain ⟨hP, hD⟩ := x_join (ws' := [(h0, .inr (0, [.ref h1, .ref h4])), (h1, .inr (5, [.int v_first_many, .int v_first_leaderHeard, .ref h2, .ref h3])), (h2, .inl (cI, 8, .inl v_first_values)), (h3, .inl (cI, 8, .inl v_first_wholeUpTo)), (h4, .inr (5, [.int v_second_many, .int v_second_leaderHeard, .ref h5, .ref h6])), (h5, .inl (cI, 8, .inl v_second_values)), (h6, .inl (cI, 8, .inl v_second_wholeUpTo))]) hP hD [0, 1, 2, 3, 4, 5, 6] [] rfl rfl (by decide) (by decide) hk1 hFc ht hB [0, 1, 2, 3, 4, 5, 6] (by decide) rfl
      clear hPc hDc hFc hk1 hB ht hz1 hvm
      refine lv_if_eq (tgt := 38) hx hb dX0_wayBy_31 (by decide) (fun c6 => ?_) (fun c6 => ?_)
      · replace hd := ite_t c6 hd
        refine lv_bipush (v := -6) hx hb dX0_wayBy_38 (by decide) ?_
        cases hd
        exact hend (by rfl) hP hD hS dX0_wayBy_40
      · replace hd := ite_f c6 hd
        refine lv_iconst (v := 2) hx hb dX0_wayBy_34 (by decide) ?_
        refine lv_goto (tgt := 40) hx hb dX0_wayBy_35 (by decide) ?_
        cases hd
        exact hend (by rfl) hP hD hS dX0_wayBy_40
    · replace hd := ite_t c4 hd
      refine lv_iconst (v := 1) hx hb dX0_wayBy_24 (by decide) ?_
      cases hd
      exact hend (by rfl) hP hD hS dX0_wayBy_25
  · replace hd := ite_t c2 hd
    refine lv_iconst (v := 0) hx hb dX0_wayBy_11 (by decide) ?_
    cases hd
    exact hend (by rfl) hP hD hS dX0_wayBy_12
def rmX0_byteBy : Room := { frames := 3, cells := 0, slots := 0, locals := 65 }
theorem kX0_byteBy_2 : (Cond.fieldLink RX0 12 "CassetteTones$BlockReader" "first" "LCassetteTones$Telling;") ∈ wsX0_byteBy := List.mem_of_getElem? (i := 2) (by decide +kernel)
theorem kX0_byteBy_4 : (Cond.initialized RX6) ∈ wsX0_byteBy := List.mem_of_getElem? (i := 4) (by decide +kernel)
theorem kX0_byteBy_3 : (Cond.static yX6_valueAt) ∈ wsX0_byteBy := List.mem_of_getElem? (i := 3) (by decide +kernel)
theorem kX0_byteBy_1 : (Cond.fieldLink RX0 18 "CassetteTones$BlockReader" "second" "LCassetteTones$Telling;") ∈ wsX0_byteBy := List.mem_of_getElem? (i := 1) (by decide +kernel)
theorem inX0_byteBy_X0 : ∀ w ∈ wsX00, w ∈ wsX0_byteBy := by decide +kernel
theorem inX0_byteBy_X5 : ∀ w ∈ wsX50, w ∈ wsX0_byteBy := by decide +kernel
theorem hp_X0_byteBy : yX0_byteBy.cls ≠ "java/lang/invoke/MethodHandle" ∧ yX0_byteBy.cls ≠ "java/lang/invoke/VarHandle" ∧ (parseMethodDescriptor yX0_byteBy.desc).map (fun d => d.parameters.length) = some 3 := by decide +kernel
theorem hv_X0_byteBy : yX0_byteBy.cls = RX0 ∧ yX0_byteBy.cls ≠ "java/lang/invoke/MethodHandle" ∧ yX0_byteBy.cls ≠ "java/lang/invoke/VarHandle" ∧ (parseMethodDescriptor yX0_byteBy.desc).map (fun d => d.parameters.length) = some 3 := by decide +kernel
set_option maxHeartbeats 4000000 in
set_option maxRecDepth 100000 in
theorem c_X0_byteBy (l : Launch) (dC : Nat → ClassId) (dI : Nat → Nat → Nat) (cI cC cT cL : ClassId) (h0 h1 h2 h3 h4 h5 h6 : Nat) (sz : Nat) (v_first_many : Int32) (v_first_leaderHeard : Int32) (v_first_values : (Nat → Int32)) (v_first_wholeUpTo : (Nat → Int32)) (v_second_many : Int32) (v_second_leaderHeard : Int32) (v_second_values : (Nat → Int32)) (v_second_wholeUpTo : (Nat → Int32)) (p1 : Int32) (p2 : Int32) (p3 : Int32) (r : Int32) (hd : den_X0_byteBy v_first_values v_first_wholeUpTo v_second_values v_second_wholeUpTo p1 p2 p3 = some r) : Met l yX0_byteBy wsX0_byteBy rmX0_byteBy (va_Pc [.ref h0, .int p1, .int p2, .int p3] (preB sz (dC, dI) [(h0, .inr (0, [.ref h1, .ref h4])), (h1, .inr (5, [.int v_first_many, .int v_first_leaderHeard, .ref h2, .ref h3])), (h2, .inl (cI, 8, .inl v_first_values)), (h3, .inl (cI, 8, .inl v_first_wholeUpTo)), (h4, .inr (5, [.int v_second_many, .int v_second_leaderHeard, .ref h5, .ref h6])), (h5, .inl (cI, 8, .inl v_second_values)), (h6, .inl (cI, 8, .inl v_second_wholeUpTo))] [(cI, .int), (cC, .char), (cT, .object "CassetteTones$Tape"), (cL, .long)])) (va_Qi (S := Unit) (fun v _ => v = r) (fun _ t => posB (dC, dI) [(h0, .inr (0, [.ref h1, .ref h4])), (h1, .inr (5, [.int v_first_many, .int v_first_leaderHeard, .ref h2, .ref h3])), (h2, .inl (cI, 8, .inl v_first_values)), (h3, .inl (cI, 8, .inl v_first_wholeUpTo)), (h4, .inr (5, [.int v_second_many, .int v_second_leaderHeard, .ref h5, .ref h6])), (h5, .inl (cI, 8, .inl v_second_values)), (h6, .inl (cI, 8, .inl v_second_wholeUpTo))] [(cI, .int), (cC, .char), (cT, .object "CassetteTones$Tape"), (cL, .long)] (va_A [(h0, .inr (0, [.ref h1, .ref h4])), (h1, .inr (5, [.int v_first_many, .int v_first_leaderHeard, .ref h2, .ref h3])), (h2, .inl (cI, 8, .inl v_first_values)), (h3, .inl (cI, 8, .inl v_first_wholeUpTo)), (h4, .inr (5, [.int v_second_many, .int v_second_leaderHeard, .ref h5, .ref h6])), (h5, .inl (cI, 8, .inl v_second_values)), (h6, .inl (cI, 8, .inl v_second_wholeUpTo))] sz) t) (va_A [(h0, .inr (0, [.ref h1, .ref h4])), (h1, .inr (5, [.int v_first_many, .int v_first_leaderHeard, .ref h2, .ref h3])), (h2, .inl (cI, 8, .inl v_first_values)), (h3, .inl (cI, 8, .inl v_first_wholeUpTo)), (h4, .inr (5, [.int v_second_many, .int v_second_leaderHeard, .ref h5, .ref h6])), (h5, .inl (cI, 8, .inl v_second_values)), (h6, .inl (cI, 8, .inl v_second_wholeUpTo))] sz)) 0 0 (va_A [(h0, .inr (0, [.ref h1, .ref h4])), (h1, .inr (5, [.int v_first_many, .int v_first_leaderHeard, .ref h2, .ref h3])), (h2, .inl (cI, 8, .inl v_first_values)), (h3, .inl (cI, 8, .inl v_first_wholeUpTo)), (h4, .inr (5, [.int v_second_many, .int v_second_leaderHeard, .ref h5, .ref h6])), (h5, .inl (cI, 8, .inl v_second_values)), (h6, .inl (cI, 8, .inl v_second_wholeUpTo))] sz) := by
  refine x_met_i (by decide) rfl (Nat.le_of_ble_eq_true rfl) ?_
  intro p e s m args below meth c A Q H locs ls hx hb hml hown hts hK hN hA hP hD hS hl hend
  have hown : s.vm.findClass RX0 = some m.cls := hown
  have hl : lv_has ls 4 [(0, .ref h0), (1, .int p1), (2, .int p2), (3, .int p3)] := hl
  unfold den_X0_byteBy at hd
  refine lv_iload_n hx hb dX0_byteBy_0 rfl (lv_at hl 1 rfl) ?_
  refine lv_iconst (v := 1) hx hb dX0_byteBy_1 (by decide) ?_
  refine lv_icmp_ne (tgt := 17) hx hb dX0_byteBy_2 (by decide) (fun c1 => ?_) (fun c1 => ?_)
  · replace hd := ite_f c1 hd
    refine lv_iload_n hx hb dX0_byteBy_17 rfl (lv_at hl 1 rfl) ?_
    refine lv_if_ne (tgt := 35) hx hb dX0_byteBy_18 (by decide) (fun c2 => ?_) (fun c2 => ?_)
    · replace hd := ite_f c2 hd
      refine lv_aload_n hx hb dX0_byteBy_35 rfl (lv_at hl 0 rfl) ?_
      refine lv_iload_n hx hb dX0_byteBy_36 rfl (lv_at hl 2 rfl) ?_
      refine lv_iload_n hx hb dX0_byteBy_37 rfl (lv_at hl 3 rfl) ?_
      obtain ⟨q3, hq3, hd⟩ := bnd_some hd
      have hPc : va_P (dC, dI) vwCl [(h0, .inr (0, [.ref h1, .ref h4])), (h1, .inr (5, [.int v_first_many, .int v_first_leaderHeard, .ref h2, .ref h3])), (h2, .inl (cI, 8, .inl v_first_values)), (h3, .inl (cI, 8, .inl v_first_wholeUpTo)), (h4, .inr (5, [.int v_second_many, .int v_second_leaderHeard, .ref h5, .ref h6])), (h5, .inl (cI, 8, .inl v_second_values)), (h6, .inl (cI, 8, .inl v_second_wholeUpTo))] _ := hP.sub [0, 1, 2, 3, 4, 5, 6] rfl
      have hDc := hD.sub (ws' := [(h0, .inr (0, [.ref h1, .ref h4])), (h1, .inr (5, [.int v_first_many, .int v_first_leaderHeard, .ref h2, .ref h3])), (h2, .inl (cI, 8, .inl v_first_values)), (h3, .inl (cI, 8, .inl v_first_wholeUpTo)), (h4, .inr (5, [.int v_second_many, .int v_second_leaderHeard, .ref h5, .ref h6])), (h5, .inl (cI, 8, .inl v_second_values)), (h6, .inl (cI, 8, .inl v_second_wholeUpTo))]) [0, 1, 2, 3, 4, 5, 6] (by decide) rfl
      have hFc := va_free (wc := [(h0, .inr (0, [.ref h1, .ref h4])), (h1, .inr (5, [.int v_first_many, .int v_first_leaderHeard, .ref h2, .ref h3])), (h2, .inl (cI, 8, .inl v_first_values)), (h3, .inl (cI, 8, .inl v_first_wholeUpTo)), (h4, .inr (5, [.int v_second_many, .int v_second_leaderHeard, .ref h5, .ref h6])), (h5, .inl (cI, 8, .inl v_second_values)), (h6, .inl (cI, 8, .inl v_second_wholeUpTo))]) hD hS hA [0, 1, 2, 3, 4, 5, 6] rfl
      refine va_calli (va_runV (As := [.int p2, .int p3]) (rest := []) ⟨hx, hb, hml, hown, hts⟩ (c_X0_byteTogether l dC dI cI cC cT cL h0 h1 h2 h3 h4 h5 h6 H.size v_first_many v_first_leaderHeard v_first_values v_first_wholeUpTo v_second_many v_second_leaderHeard v_second_values v_second_wholeUpTo p2 p3 q3 hq3) (cwV 2 hts gX0_byteBy_X0_byteTogether rfl rfl rfl hv_X0_byteTogether ⟨Nat.le_of_ble_eq_true rfl, Nat.le_of_ble_eq_true rfl⟩) ⟨preB_fb, va_recv hK hPc (ci := 0) (q0 := 0) rfl rfl, fun U hU hW => preB_mk hU hW hPc hK hDc hN⟩ rfl rfl hl.1 rfl (lv_room (Nat.le_of_ble_eq_true rfl)) dX0_byteBy_38 ⟨Nat.zero_le _, Nat.zero_le _⟩) hS (fun q _ h => hFc q h) hFc (fun r_ u_ t H locs ht hvm hw hB hz1 hk1 hS => ?_)
      have hw : r_ = q3 := hw
      have hw := hw.symm
      subst hw
      obtain ⟨hP, hD⟩ := x_join (ws' := [(h0, .inr (0, [.ref h1, .ref h4])), (h1, .inr (5, [.int v_first_many, .int v_first_leaderHeard, .ref h2, .ref h3])), (h2, .inl (cI, 8, .inl v_first_values)), (h3, .inl (cI, 8, .inl v_first_wholeUpTo)), (h4, .inr (5, [.int v_second_many, .int v_second_leaderHeard, .ref h5, .ref h6])), (h5, .inl (cI, 8, .inl v_second_values)), (h6, .inl (cI, 8, .inl v_second_wholeUpTo))]) hP hD [0, 1, 2, 3, 4, 5, 6] [] rfl rfl (by decide) (by decide) hk1 hFc ht hB [0, 1, 2, 3, 4, 5, 6] (by decide) rfl
      clear hPc hDc hFc hk1 hB ht hz1 hvm
      cases hd
      exact hend (by rfl) hP hD hS dX0_byteBy_41
    · replace hd := ite_t c2 hd
      refine lv_aload_n hx hb dX0_byteBy_21 rfl (lv_at hl 0 rfl) ?_
      refine va_get (D := (dC, dI)) (ci := 0) (v := .ref h1) (C := RX0) (T := TX0) (N := 2) hx hb hts inX0_byteBy_X0 hown hK hP 0 rfl rfl 0 (by decide) (hts _ kX0_byteBy_2) (fun _ h9 => h9) rfl dX0_byteBy_22 ?_
      refine va_getN (D := (dC, dI)) (ci := 5) (v := .ref h2) (C := RX5) (T := TX5) (N := 4) hx hb hts inX0_byteBy_X5 hown hK hP 1 rfl rfl 2 (by decide) (nx_10 hN) (fun _ h9 => h9) rfl dX0_byteBy_25 ?_
      refine lv_iload_n hx hb dX0_byteBy_28 rfl (lv_at hl 2 rfl) ?_
      obtain ⟨g4, hd⟩ := gd_some hd
      have hPc : va_P (dC, dI) vwCl [(h2, .inl (cI, 8, .inl v_first_values))] _ := hP.sub [2] rfl
      have hDc := hD.sub (ws' := [(h2, .inl (cI, 8, .inl v_first_values))]) [2] (by decide) rfl
      have hFc := va_free (wc := [(h2, .inl (cI, 8, .inl v_first_values))]) hD hS hA [2] rfl
      refine va_calli (va_runSN (As := [.ref h2, .int p2]) (rest := []) ⟨hx, hb, hml, hown, hts⟩ (c_X6_valueAt l dC dI cI cC cT cL h2 8 H.size v_first_values p2 (v_first_values p2.toNatClampNeg) (i_X6_valueAt (Nat.le_of_ble_eq_true rfl) g4 rfl)) ⟨(va_cnB 2 hts gX0_byteBy_X6_valueAt_n31 rfl rfl rfl (nxw_37 hN) (hts _ kX0_byteBy_4) hp_X6_valueAt ⟨Nat.le_of_ble_eq_true rfl, Nat.le_of_ble_eq_true rfl⟩), (hts _ kX0_byteBy_3), trivial⟩ ⟨preB_fb, fun U hU hW => preB_mk hU hW hPc hK hDc hN⟩ rfl rfl hl.1 rfl (lv_room (Nat.le_of_ble_eq_true rfl)) dX0_byteBy_29 ⟨Nat.zero_le _, Nat.zero_le _⟩) hS (fun q _ h => hFc q h) hFc (fun r_ u_ t H locs ht hvm hw hB hz1 hk1 hS => ?_)
      have hw : r_ = (v_first_values p2.toNatClampNeg) := hw
      have hw := hw.symm
      subst hw
      obtain ⟨hP, hD⟩ := x_join (ws' := [(h0, .inr (0, [.ref h1, .ref h4])), (h1, .inr (5, [.int v_first_many, .int v_first_leaderHeard, .ref h2, .ref h3])), (h2, .inl (cI, 8, .inl v_first_values)), (h3, .inl (cI, 8, .inl v_first_wholeUpTo)), (h4, .inr (5, [.int v_second_many, .int v_second_leaderHeard, .ref h5, .ref h6])), (h5, .inl (cI, 8, .inl v_second_values)), (h6, .inl (cI, 8, .inl v_second_wholeUpTo))]) hP hD [2] [0, 1, 3, 4, 5, 6] rfl rfl (by decide) (by decide) hk1 hFc ht hB [0, 1, 6, 2, 3, 4, 5] (by decide) rfl
      clear hPc hDc hFc hk1 hB ht hz1 hvm
      refine lv_goto (tgt := 41) hx hb dX0_byteBy_32 (by decide) ?_
      cases hd
      exact hend (by rfl) hP hD hS dX0_byteBy_41
  · replace hd := ite_t c1 hd
    refine lv_aload_n hx hb dX0_byteBy_5 rfl (lv_at hl 0 rfl) ?_
    refine va_get (D := (dC, dI)) (ci := 0) (v := .ref h4) (C := RX0) (T := TX0) (N := 2) hx hb hts inX0_byteBy_X0 hown hK hP 0 rfl rfl 1 (by decide) (hts _ kX0_byteBy_1) (fun _ h9 => h9) rfl dX0_byteBy_6 ?_
    refine va_getN (D := (dC, dI)) (ci := 5) (v := .ref h5) (C := RX5) (T := TX5) (N := 4) hx hb hts inX0_byteBy_X5 hown hK hP 4 rfl rfl 2 (by decide) (nx_10 hN) (fun _ h9 => h9) rfl dX0_byteBy_9 ?_
    refine lv_iload_n hx hb dX0_byteBy_12 rfl (lv_at hl 2 rfl) ?_
    obtain ⟨g5, hd⟩ := gd_some hd
    have hPc : va_P (dC, dI) vwCl [(h5, .inl (cI, 8, .inl v_second_values))] _ := hP.sub [5] rfl
    have hDc := hD.sub (ws' := [(h5, .inl (cI, 8, .inl v_second_values))]) [5] (by decide) rfl
    have hFc := va_free (wc := [(h5, .inl (cI, 8, .inl v_second_values))]) hD hS hA [5] rfl
    refine va_calli (va_runSN (As := [.ref h5, .int p2]) (rest := []) ⟨hx, hb, hml, hown, hts⟩ (c_X6_valueAt l dC dI cI cC cT cL h5 8 H.size v_second_values p2 (v_second_values p2.toNatClampNeg) (i_X6_valueAt (Nat.le_of_ble_eq_true rfl) g5 rfl)) ⟨(va_cnB 2 hts gX0_byteBy_X6_valueAt_n31 rfl rfl rfl (nxw_37 hN) (hts _ kX0_byteBy_4) hp_X6_valueAt ⟨Nat.le_of_ble_eq_true rfl, Nat.le_of_ble_eq_true rfl⟩), (hts _ kX0_byteBy_3), trivial⟩ ⟨preB_fb, fun U hU hW => preB_mk hU hW hPc hK hDc hN⟩ rfl rfl hl.1 rfl (lv_room (Nat.le_of_ble_eq_true rfl)) dX0_byteBy_13 ⟨Nat.zero_le _, Nat.zero_le _⟩) hS (fun q _ h => hFc q h) hFc (fun r_ u_ t H locs ht hvm hw hB hz1 hk1 hS => ?_)
    have hw : r_ = (v_second_values p2.toNatClampNeg) := hw
    have hw := hw.symm
    subst hw
    obtain ⟨hP, hD⟩ := x_join (ws' := [(h0, .inr (0, [.ref h1, .ref h4])), (h1, .inr (5, [.int v_first_many, .int v_first_leaderHeard, .ref h2, .ref h3])), (h2, .inl (cI, 8, .inl v_first_values)), (h3, .inl (cI, 8, .inl v_first_wholeUpTo)), (h4, .inr (5, [.int v_second_many, .int v_second_leaderHeard, .ref h5, .ref h6])), (h5, .inl (cI, 8, .inl v_second_values)), (h6, .inl (cI, 8, .inl v_second_wholeUpTo))]) hP hD [5] [0, 1, 2, 3, 4, 6] rfl rfl (by decide) (by decide) hk1 hFc ht hB [0, 1, 2, 3, 4, 6, 5] (by decide) rfl
    clear hPc hDc hFc hk1 hB ht hz1 hvm
    cases hd
    exact hend (by rfl) hP hD hS dX0_byteBy_16
def rmX0_bytesBy : Room := { frames := 4, cells := 0, slots := 0, locals := 88 }
theorem kX0_bytesBy_1 : (Cond.fieldLink RX0 12 "CassetteTones$BlockReader" "first" "LCassetteTones$Telling;") ∈ wsX0_bytesBy := List.mem_of_getElem? (i := 1) (by decide +kernel)
theorem inX0_bytesBy_X0 : ∀ w ∈ wsX00, w ∈ wsX0_bytesBy := by decide +kernel
theorem inX0_bytesBy_X5 : ∀ w ∈ wsX50, w ∈ wsX0_bytesBy := by decide +kernel
theorem hp_X0_bytesBy : yX0_bytesBy.cls ≠ "java/lang/invoke/MethodHandle" ∧ yX0_bytesBy.cls ≠ "java/lang/invoke/VarHandle" ∧ (parseMethodDescriptor yX0_bytesBy.desc).map (fun d => d.parameters.length) = some 2 := by decide +kernel
theorem hv_X0_bytesBy : yX0_bytesBy.cls = RX0 ∧ yX0_bytesBy.cls ≠ "java/lang/invoke/MethodHandle" ∧ yX0_bytesBy.cls ≠ "java/lang/invoke/VarHandle" ∧ (parseMethodDescriptor yX0_bytesBy.desc).map (fun d => d.parameters.length) = some 2 := by decide +kernel
set_option maxHeartbeats 4000000 in
set_option maxRecDepth 100000 in
theorem c_X0_bytesBy (l : Launch) (dC : Nat → ClassId) (dI : Nat → Nat → Nat) (cI cC cT cL : ClassId) (h0 h1 h2 h3 h4 h5 h6 : Nat) (sz : Nat) (v_first_many : Int32) (v_first_leaderHeard : Int32) (v_first_values : (Nat → Int32)) (v_first_wholeUpTo : (Nat → Int32)) (v_second_many : Int32) (v_second_leaderHeard : Int32) (v_second_values : (Nat → Int32)) (v_second_wholeUpTo : (Nat → Int32)) (p1 : Int32) (p2 : Int32) (r : Int64) (hd : den_X0_bytesBy v_first_many v_first_values v_first_wholeUpTo v_second_values v_second_wholeUpTo p1 p2 = some r) : Met l yX0_bytesBy wsX0_bytesBy rmX0_bytesBy (va_Pc [.ref h0, .int p1, .int p2] (preB sz (dC, dI) [(h0, .inr (0, [.ref h1, .ref h4])), (h1, .inr (5, [.int v_first_many, .int v_first_leaderHeard, .ref h2, .ref h3])), (h2, .inl (cI, 8, .inl v_first_values)), (h3, .inl (cI, 8, .inl v_first_wholeUpTo)), (h4, .inr (5, [.int v_second_many, .int v_second_leaderHeard, .ref h5, .ref h6])), (h5, .inl (cI, 8, .inl v_second_values)), (h6, .inl (cI, 8, .inl v_second_wholeUpTo))] [(cI, .int), (cC, .char), (cT, .object "CassetteTones$Tape"), (cL, .long)])) (va_Ql (S := Unit) (fun v _ => v = r) (fun _ t => posB (dC, dI) [(h0, .inr (0, [.ref h1, .ref h4])), (h1, .inr (5, [.int v_first_many, .int v_first_leaderHeard, .ref h2, .ref h3])), (h2, .inl (cI, 8, .inl v_first_values)), (h3, .inl (cI, 8, .inl v_first_wholeUpTo)), (h4, .inr (5, [.int v_second_many, .int v_second_leaderHeard, .ref h5, .ref h6])), (h5, .inl (cI, 8, .inl v_second_values)), (h6, .inl (cI, 8, .inl v_second_wholeUpTo))] [(cI, .int), (cC, .char), (cT, .object "CassetteTones$Tape"), (cL, .long)] (va_A [(h0, .inr (0, [.ref h1, .ref h4])), (h1, .inr (5, [.int v_first_many, .int v_first_leaderHeard, .ref h2, .ref h3])), (h2, .inl (cI, 8, .inl v_first_values)), (h3, .inl (cI, 8, .inl v_first_wholeUpTo)), (h4, .inr (5, [.int v_second_many, .int v_second_leaderHeard, .ref h5, .ref h6])), (h5, .inl (cI, 8, .inl v_second_values)), (h6, .inl (cI, 8, .inl v_second_wholeUpTo))] sz) t) (va_A [(h0, .inr (0, [.ref h1, .ref h4])), (h1, .inr (5, [.int v_first_many, .int v_first_leaderHeard, .ref h2, .ref h3])), (h2, .inl (cI, 8, .inl v_first_values)), (h3, .inl (cI, 8, .inl v_first_wholeUpTo)), (h4, .inr (5, [.int v_second_many, .int v_second_leaderHeard, .ref h5, .ref h6])), (h5, .inl (cI, 8, .inl v_second_values)), (h6, .inl (cI, 8, .inl v_second_wholeUpTo))] sz)) 0 0 (va_A [(h0, .inr (0, [.ref h1, .ref h4])), (h1, .inr (5, [.int v_first_many, .int v_first_leaderHeard, .ref h2, .ref h3])), (h2, .inl (cI, 8, .inl v_first_values)), (h3, .inl (cI, 8, .inl v_first_wholeUpTo)), (h4, .inr (5, [.int v_second_many, .int v_second_leaderHeard, .ref h5, .ref h6])), (h5, .inl (cI, 8, .inl v_second_values)), (h6, .inl (cI, 8, .inl v_second_wholeUpTo))] sz) := by
  refine x_met_l (by decide) rfl (Nat.le_of_ble_eq_true rfl) ?_
  intro p e s m args below meth c A Q H locs ls hx hb hml hown hts hK hN hA hP hD hS hl hend
  have hown : s.vm.findClass RX0 = some m.cls := hown
  have hl : lv_has ls 6 [(0, .ref h0), (1, .int p1), (2, .int p2)] := hl
  unfold den_X0_bytesBy at hd
  refine lv_lconst (v := 0) hx hb dX0_bytesBy_0 (by decide) ?_
  refine lv_lstore_n (lv' := [(3, .long (0 : Int64)), (0, .ref h0), (1, .int p1), (2, .int p2)]) hx hb dX0_bytesBy_1 rfl hl (by decide) rfl (fun ls hl => ?_)
  refine lv_aload_n hx hb dX0_bytesBy_2 rfl (lv_at hl 1 rfl) ?_
  refine va_get (D := (dC, dI)) (ci := 0) (v := .ref h1) (C := RX0) (T := TX0) (N := 2) hx hb hts inX0_bytesBy_X0 hown hK hP 0 rfl rfl 0 (by decide) (hts _ kX0_bytesBy_1) (fun _ h9 => h9) rfl dX0_bytesBy_3 ?_
  refine va_getN (D := (dC, dI)) (ci := 5) (v := .int v_first_many) (C := RX5) (T := TX5) (N := 4) hx hb hts inX0_bytesBy_X5 hown hK hP 1 rfl rfl 0 (by decide) (nx_9 hN) (fun _ h9 => h9) rfl dX0_bytesBy_6 ?_
  refine lv_iconst (v := 1) hx hb dX0_bytesBy_9 (by decide) ?_
  refine lv_isub hx hb dX0_bytesBy_10 ?_
  refine lv_istore (lv' := [(5, .int (v_first_many - (1 : Int32))), (3, .long (0 : Int64)), (0, .ref h0), (1, .int p1), (2, .int p2)]) hx hb dX0_bytesBy_11 hl (by decide) rfl (fun ls hl => ?_)
  obtain ⟨q1, hq1, hd⟩ := bnd_some hd
  have Kq1 : ∀ (H : Heap) (locs : List Loc) (ls : Array Slot), va_P (dC, dI) vwCl [(h0, .inr (0, [.ref h1, .ref h4])), (h1, .inr (5, [.int v_first_many, .int v_first_leaderHeard, .ref h2, .ref h3])), (h2, .inl (cI, 8, .inl v_first_values)), (h3, .inl (cI, 8, .inl v_first_wholeUpTo)), (h4, .inr (5, [.int v_second_many, .int v_second_leaderHeard, .ref h5, .ref h6])), (h5, .inl (cI, 8, .inl v_second_values)), (h6, .inl (cI, 8, .inl v_second_wholeUpTo))] H → va_D A [(h0, .inr (0, [.ref h1, .ref h4])), (h1, .inr (5, [.int v_first_many, .int v_first_leaderHeard, .ref h2, .ref h3])), (h2, .inl (cI, 8, .inl v_first_values)), (h3, .inl (cI, 8, .inl v_first_wholeUpTo)), (h4, .inr (5, [.int v_second_many, .int v_second_leaderHeard, .ref h5, .ref h6])), (h5, .inl (cI, 8, .inl v_second_values)), (h6, .inl (cI, 8, .inl v_second_wholeUpTo))] → va_S A s.heap H locs → lv_has ls 6 [(3, .long q1)] → W p l e rmX0_bytesBy s m args below meth c H locs 0 0 Q (F0 m 39 ls []) := by
    intro H locs ls hP hD hS hl
    refine lv_lload_n hx hb dX0_bytesBy_39 rfl (lv_at hl 0 rfl) ?_
    cases hd
    exact hend (by rfl) hP hD hS dX0_bytesBy_40
  clear hd
  have KL5 : ∀ (fu : Nat) (y3_13 : Int64) (y5_13 : Int32) (hd : den_X0_bytesBy_L13 p1 p2 v_first_values v_first_wholeUpTo v_second_values v_second_wholeUpTo fu y3_13 y5_13 = some q1) (H : Heap) (locs : List Loc) (ls : Array Slot), va_P (dC, dI) vwCl [(h0, .inr (0, [.ref h1, .ref h4])), (h1, .inr (5, [.int v_first_many, .int v_first_leaderHeard, .ref h2, .ref h3])), (h2, .inl (cI, 8, .inl v_first_values)), (h3, .inl (cI, 8, .inl v_first_wholeUpTo)), (h4, .inr (5, [.int v_second_many, .int v_second_leaderHeard, .ref h5, .ref h6])), (h5, .inl (cI, 8, .inl v_second_values)), (h6, .inl (cI, 8, .inl v_second_wholeUpTo))] H → va_D A [(h0, .inr (0, [.ref h1, .ref h4])), (h1, .inr (5, [.int v_first_many, .int v_first_leaderHeard, .ref h2, .ref h3])), (h2, .inl (cI, 8, .inl v_first_values)), (h3, .inl (cI, 8, .inl v_first_wholeUpTo)), (h4, .inr (5, [.int v_second_many, .int v_second_leaderHeard, .ref h5, .ref h6])), (h5, .inl (cI, 8, .inl v_second_values)), (h6, .inl (cI, 8, .inl v_second_wholeUpTo))] → va_S A s.heap H locs → lv_has ls 6 [(0, .ref h0), (1, .int p1), (2, .int p2), (3, .long y3_13), (5, .int y5_13)] → W p l e rmX0_bytesBy s m args below meth c H locs 0 0 Q (F0 m 13 ls []) := by
    intro fu
    induction fu with
    | zero => intro y3_13 y5_13 hd; exact no_some hd
    | succ fu ih =>
      intro y3_13 y5_13 hd H locs ls hP hD hS hl
      rw [den_X0_bytesBy_L13] at hd
      refine lv_iload hx hb dX0_bytesBy_13 (lv_at hl 4 rfl) ?_
      refine lv_if_lt (tgt := 39) hx hb dX0_bytesBy_15 (by decide) (fun c2 => ?_) (fun c2 => ?_)
      · replace hd := ite_t c2 hd
        cases hd
        exact Kq1 _ _ _ hP hD hS (lv_sub hl [3] rfl)
      · replace hd := ite_f c2 hd
        refine lv_lload_n hx hb dX0_bytesBy_18 rfl (lv_at hl 3 rfl) ?_
        refine lv_bipush (v := 8) hx hb dX0_bytesBy_19 (by decide) ?_
        refine lv_lshl (v := (y3_13 <<< (((8 : Int32)).toInt64 &&& 63))) hx hb dX0_bytesBy_21 rfl ?_
        refine lv_aload_n hx hb dX0_bytesBy_22 rfl (lv_at hl 0 rfl) ?_
        refine lv_iload_n hx hb dX0_bytesBy_23 rfl (lv_at hl 1 rfl) ?_
        refine lv_iload hx hb dX0_bytesBy_24 (lv_at hl 4 rfl) ?_
        refine lv_iload_n hx hb dX0_bytesBy_26 rfl (lv_at hl 2 rfl) ?_
        obtain ⟨q3, hq3, hd⟩ := bnd_some hd
        have hPc : va_P (dC, dI) vwCl [(h0, .inr (0, [.ref h1, .ref h4])), (h1, .inr (5, [.int v_first_many, .int v_first_leaderHeard, .ref h2, .ref h3])), (h2, .inl (cI, 8, .inl v_first_values)), (h3, .inl (cI, 8, .inl v_first_wholeUpTo)), (h4, .inr (5, [.int v_second_many, .int v_second_leaderHeard, .ref h5, .ref h6])), (h5, .inl (cI, 8, .inl v_second_values)), (h6, .inl (cI, 8, .inl v_second_wholeUpTo))] _ := hP.sub [0, 1, 2, 3, 4, 5, 6] rfl
        have hDc := hD.sub (ws' := [(h0, .inr (0, [.ref h1, .ref h4])), (h1, .inr (5, [.int v_first_many, .int v_first_leaderHeard, .ref h2, .ref h3])), (h2, .inl (cI, 8, .inl v_first_values)), (h3, .inl (cI, 8, .inl v_first_wholeUpTo)), (h4, .inr (5, [.int v_second_many, .int v_second_leaderHeard, .ref h5, .ref h6])), (h5, .inl (cI, 8, .inl v_second_values)), (h6, .inl (cI, 8, .inl v_second_wholeUpTo))]) [0, 1, 2, 3, 4, 5, 6] (by decide) rfl
        have hFc := va_free (wc := [(h0, .inr (0, [.ref h1, .ref h4])), (h1, .inr (5, [.int v_first_many, .int v_first_leaderHeard, .ref h2, .ref h3])), (h2, .inl (cI, 8, .inl v_first_values)), (h3, .inl (cI, 8, .inl v_first_wholeUpTo)), (h4, .inr (5, [.int v_second_many, .int v_second_leaderHeard, .ref h5, .ref h6])), (h5, .inl (cI, 8, .inl v_second_values)), (h6, .inl (cI, 8, .inl v_second_wholeUpTo))]) hD hS hA [0, 1, 2, 3, 4, 5, 6] rfl
        refine va_calli (va_runV (As := [.int p1, .int y5_13, .int p2]) (rest := [.long (y3_13 <<< (((8 : Int32)).toInt64 &&& 63))]) ⟨hx, hb, hml, hown, hts⟩ (c_X0_byteBy l dC dI cI cC cT cL h0 h1 h2 h3 h4 h5 h6 H.size v_first_many v_first_leaderHeard v_first_values v_first_wholeUpTo v_second_many v_second_leaderHeard v_second_values v_second_wholeUpTo p1 y5_13 p2 q3 hq3) (cwV 3 hts gX0_bytesBy_X0_byteBy rfl rfl rfl hv_X0_byteBy ⟨Nat.le_of_ble_eq_true rfl, Nat.le_of_ble_eq_true rfl⟩) ⟨preB_fb, va_recv hK hPc (ci := 0) (q0 := 0) rfl rfl, fun U hU hW => preB_mk hU hW hPc hK hDc hN⟩ rfl rfl hl.1 rfl (lv_room (Nat.le_of_ble_eq_true rfl)) dX0_bytesBy_27 ⟨Nat.zero_le _, Nat.zero_le _⟩) hS (fun q _ h => hFc q h) hFc (fun r_ u_ t H locs ht hvm hw hB hz1 hk1 hS => ?_)
        have hw : r_ = q3 := hw
        have hw := hw.symm
        subst hw
        obtain ⟨hP, hD⟩ := x_join (ws' := [(h0, .inr (0, [.ref h1, .ref h4])), (h1, .inr (5, [.int v_first_many, .int v_first_leaderHeard, .ref h2, .ref h3])), (h2, .inl (cI, 8, .inl v_first_values)), (h3, .inl (cI, 8, .inl v_first_wholeUpTo)), (h4, .inr (5, [.int v_second_many, .int v_second_leaderHeard, .ref h5, .ref h6])), (h5, .inl (cI, 8, .inl v_second_values)), (h6, .inl (cI, 8, .inl v_second_wholeUpTo))]) hP hD [0, 1, 2, 3, 4, 5, 6] [] rfl rfl (by decide) (by decide) hk1 hFc ht hB [0, 1, 2, 3, 4, 5, 6] (by decide) rfl
        clear hPc hDc hFc hk1 hB ht hz1 hvm
        refine lv_i2l (v := (q3).toInt64) hx hb dX0_bytesBy_30 rfl ?_
        refine lv_lor hx hb dX0_bytesBy_31 ?_
        refine lv_topl (fun x4 ex4 => ?_)
        replace hd := nm_some ex4 hd
        refine lv_lstore_n (lv' := [(3, .long x4), (0, .ref h0), (1, .int p1), (2, .int p2), (5, .int y5_13)]) hx hb dX0_bytesBy_32 rfl hl (by decide) rfl (fun ls hl => ?_)
        refine lv_iinc (v := (y5_13 + (-1 : Int32))) (lv' := [(5, .int (y5_13 + (-1 : Int32))), (3, .long x4), (0, .ref h0), (1, .int p1), (2, .int p2)]) hx hb dX0_bytesBy_33 hl (k := 4) rfl (by first | rfl | decide) (by decide) rfl (fun ls hl => ?_)
        refine lv_goto (tgt := 13) hx hb dX0_bytesBy_36 (by decide) ?_
        exact ih x4 (y5_13 + (-1 : Int32)) hd _ _ _ hP hD hS (lv_sub hl [2, 3, 4, 1, 0] rfl)
  exact KL5 FU (0 : Int64) (v_first_many - (1 : Int32)) hq1 _ _ _ hP hD hS (lv_sub hl [2, 3, 4, 1, 0] rfl)
