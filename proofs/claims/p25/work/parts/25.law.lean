set_option linter.unusedVariables false
theorem kL_cell_1 : (Cond.constant RL 7 (1000177493)) ∈ wsL_cell := List.mem_of_getElem? (i := 1) (by decide +kernel)
theorem kL_cell_2 : (Cond.constant RL 8 (650699937)) ∈ wsL_cell := List.mem_of_getElem? (i := 2) (by decide +kernel)
theorem hp_L_cell : yL_cell.cls ≠ "java/lang/invoke/MethodHandle" ∧ yL_cell.cls ≠ "java/lang/invoke/VarHandle" ∧ (parseMethodDescriptor yL_cell.desc).map (fun d => d.parameters.length) = some 2 := by decide +kernel
def rmL_cell : Room := { frames := 0, cells := 0, slots := 0, locals := 0 }
noncomputable def dX_cell (L : Nat) (xs : Nat → Int32) (p2 : Int32) : Option Int32 :=
  if (Int32.ofNat L) ≤ p2 then (some (((1000177493 : Int32) * (p2 + (1 : Int32))) + (650699937 : Int32))) else (gd (inb p2 L) (some (xs p2.toNatClampNeg)))
set_option maxHeartbeats 4000000 in
theorem c_L_cellX (l : Launch) (b L sz : Nat) (xs : Nat → Int32) (p2 : Int32) (r : Int32) (hd0 : den_L_cell L xs p2 = some r) : Met l yL_cell wsL_cell rmL_cell (va_Pc [.ref b, .int p2] (preX sz b L xs)) (va_Qi (S := Unit) (fun v _ => v = r) (fun _ _ => True) (fun q => sz ≤ q)) 0 0 (fun q => sz ≤ q) := by
  refine Met.ofW (cc := cL_cell) (maxL := 2) (ret := some .int) (by decide) rfl ?_
  intro p e s m args below meth c s₁ B0 hml hv
  obtain ⟨rfl, hsz, hX, hbl⟩ := hv
  subst hsz
  have hl := lv_entry ([.ref b, .int p2]) (n := 2) (Nat.le_of_ble_eq_true rfl)
  rw [lg_entry_eq]
  have hlocks := B0.notSynchronized
  have hx := B0.exec
  have hb := B0.bytes
  have hts := atoms_spec (ws := wsL_cell) B0.pre
  have hown : s.vm.findClass RL = some m.cls := findClass_of_methodNamed B0.named
  obtain ⟨A, hAe⟩ : ∃ A : Nat → Prop, A = fun q : Nat => s.heap.size ≤ q := ⟨_, rfl⟩
  have hbA : ¬ A b := by rw [hAe]; exact Nat.not_le.mpr hbl
  have hS : va_S A s.heap s.heap [] := va_S.rf
  have hd : dX_cell L xs p2 = some r := hd0
  unfold dX_cell at hd
  have hend : ∀ {H : Heap} {locs : List Loc} {v : Int32} {pc : Nat} {ls : Array Slot}, v = r → va_S A s.heap H locs → decode cL_cell pc = .ok (.ireturn, 1) → W p l e (headSpec wsL_cell rmL_cell).room s m ([Value.ref b, Value.int p2] : List Value).toArray below meth c H locs 0 0 (MQ below (va_Qi (S := Unit) (fun v _ => v = r) (fun _ _ => True) (fun q => s.heap.size ≤ q)) ([Value.ref b, Value.int p2] : List Value).toArray s 0 0 (fun q => s.heap.size ≤ q)) (F0 m pc ls [.int v]) := by
    intro H locs v pc ls hv hS hdg
    rw [hAe] at hS
    exact W.iret B0.exec B0.bytes B0.returns (fun t ht hW => ⟨⟨v, (), rfl, hv, trivial⟩, hS.F ht⟩) hS.2.2 hdg hlocks
  generalize (lg_sl ([.ref b, .int p2]) ++ List.replicate (2 - (lg_sl ([.ref b, .int p2])).length) Slot.unset).toArray = ls at hl ⊢
  have hl : lv_has ls 2 [(0, .ref b), (1, .int p2)] := hl
  refine lv_iload_n hx hb dL_cell_0 rfl (lv_at hl 1 rfl) ?_
  refine lv_aload_n hx hb dL_cell_1 rfl (lv_at hl 0 rfl) ?_
  refine va_slen hx hb hX hbl hbA hS dL_cell_2 ?_
  refine lv_icmp_ge (tgt := 12) hx hb dL_cell_3 (by decide) (fun c1 => ?_) (fun c1 => ?_)
  · replace hd := ite_t c1 hd
    refine lv_ldc (v := 1000177493) hx hb hown (hts _ kL_cell_1) dL_cell_12 ?_
    refine lv_iload_n hx hb dL_cell_14 rfl (lv_at hl 1 rfl) ?_
    refine lv_iconst (v := 1) hx hb dL_cell_15 (by decide) ?_
    refine lv_iadd hx hb dL_cell_16 ?_
    refine lv_imul hx hb dL_cell_17 ?_
    refine lv_ldc (v := 650699937) hx hb hown (hts _ kL_cell_2) dL_cell_18 ?_
    refine lv_iadd hx hb dL_cell_20 ?_
    exact hend (Option.some.inj hd) hS dL_cell_21
  · replace hd := ite_f c1 hd
    refine lv_aload_n hx hb dL_cell_6 rfl (lv_at hl 0 rfl) ?_
    refine lv_iload_n hx hb dL_cell_7 rfl (lv_at hl 1 rfl) ?_
    obtain ⟨g2, hd⟩ := gd_some hd
    refine va_sld hx hb hX hbl hbA hS (inb_in g2) dL_cell_8 ?_
    refine lv_goto (tgt := 21) hx hb dL_cell_9 (by decide) ?_
    exact hend (Option.some.inj hd) hS dL_cell_21
set_option maxHeartbeats 8000000 in
set_option maxRecDepth 100000 in
theorem law_main {p : Program} (l : Launch) {e : Env} {s : State} {m : MethodId} {below : List Frame} {meth : Method} {c : Code} {b L : Nat} {xs : Nat → Int32} (dC : Nat → ClassId) (dI : Nat → Nat → Nat) (cI cC cT cL : ClassId) (ad : Nat → Nat) (fr : Nat → Option Nat) (hfr0 : fr 0 = some (ad 21)) (hfr1 : fr 1 = some (ad 30)) (hfr2 : fr 2 = some (ad 39)) (hfr3 : fr 3 = some (ad 48)) (hfr4 : fr 4 = some (ad 57)) (hfr5 : fr 5 = some (ad 66)) {A : Nat → Prop} {Q : State → Prop} (hx : p.tables.exec = Jvm.exec) (hb : c.code = cL_law) (hml : c.maxLocals = 14) (hown : s.vm.findClass RL = some m.cls) (hts : ∀ w ∈ wsL_law, w.before #[Value.ref b] s = true) (hK : va_K (dC, dI) vwCl [(cI, .int), (cC, .char), (cT, .object "CassetteTones$Tape"), (cL, .long)] s) (hN : NX s) (hA : ∀ q : Nat, s.heap.size ≤ q → A q) (hX : va_X b L xs s s.heap) (hbl : b < s.heap.size) (hbA : ¬ A b) (aq ab am : Nat) (hend : ∀ {H : Heap} {locs : List Loc} {ls : Array Slot}, va_S A s.heap H locs → W p l e room_1 s m #[Value.ref b] below meth c H locs 99 67507 Q (F0 m 754 ls [.int (1 : Int32)])) (q bl : Nat → Int32) (me : Nat → Int64) (T : TV) (R : RV) (P : PV) (Y : HV) (S : SV) (B : Nat → Int32) (y5 : Int32) (hd : den_L_law xs L q bl me T R Y B P y5 = some 1) (H : Heap) (locs : List Loc) (ls : Array Slot) : va_P (dC, dI) vwCl ([(aq, .inl (cI, 5, .inl q)), (ab, .inl (cI, 48, .inl bl)), (am, .inl (cL, 64, .inr (.inl me)))] ++ mod cI cC cT cL ad fr T R P Y S B) H → va_D A ([(aq, .inl (cI, 5, .inl q)), (ab, .inl (cI, 48, .inl bl)), (am, .inl (cL, 64, .inr (.inl me)))] ++ mod cI cC cT cL ad fr T R P Y S B) → va_S A s.heap H locs → lv_has ls 14 [(0, .ref b), (1, .ref (ad 0)), (2, .ref aq), (3, .ref ab), (4, .ref am), (5, .int y5)] → W p l e room_1 s m #[Value.ref b] below meth c H locs 99 67507 Q (F0 m 40 ls []) := by
  intro hP hD hS hl
  unfold den_L_law at hd
  obtain ⟨q1, hq1, hd⟩ := bnd_some hd
  have Kq1 : ∀ (H : Heap) (locs : List Loc) (ls : Array Slot), va_P (dC, dI) vwCl ([(aq, .inl (cI, 5, .inl q1.1)), (ab, .inl (cI, 48, .inl q1.2.1)), (am, .inl (cL, 64, .inr (.inl q1.2.2.1)))] ++ mod cI cC cT cL ad fr q1.2.2.2.1 q1.2.2.2.2.1 P q1.2.2.2.2.2.1 S q1.2.2.2.2.2.2) H → va_D A ([(aq, .inl (cI, 5, .inl q1.1)), (ab, .inl (cI, 48, .inl q1.2.1)), (am, .inl (cL, 64, .inr (.inl q1.2.2.1)))] ++ mod cI cC cT cL ad fr q1.2.2.2.1 q1.2.2.2.2.1 P q1.2.2.2.2.2.1 S q1.2.2.2.2.2.2) → va_S A s.heap H locs → lv_has ls 14 [] → W p l e room_1 s m #[Value.ref b] below meth c H locs 99 67507 Q (F0 m 753 ls []) := by
    intro H locs ls hP hD hS hl
    refine lv_iconst (v := 1) hx hb dL_law_753 (by decide) ?_
    exact hend hS
  clear hd
  have KL141 : ∀ (fu : Nat) (y5_40 : Int32) (q_40 : (Nat → Int32)) (bl_40 : (Nat → Int32)) (me_40 : (Nat → Int64)) (T_40 : TV) (R_40 : RV) (Y_40 : HV) (B_40 : (Nat → Int32)) (hd : den_L_law_L40 xs L P fu y5_40 q_40 bl_40 me_40 T_40 R_40 Y_40 B_40 = some q1) (H : Heap) (locs : List Loc) (ls : Array Slot), va_P (dC, dI) vwCl ([(aq, .inl (cI, 5, .inl q_40)), (ab, .inl (cI, 48, .inl bl_40)), (am, .inl (cL, 64, .inr (.inl me_40)))] ++ mod cI cC cT cL ad fr T_40 R_40 P Y_40 S B_40) H → va_D A ([(aq, .inl (cI, 5, .inl q_40)), (ab, .inl (cI, 48, .inl bl_40)), (am, .inl (cL, 64, .inr (.inl me_40)))] ++ mod cI cC cT cL ad fr T_40 R_40 P Y_40 S B_40) → va_S A s.heap H locs → lv_has ls 14 [(0, .ref b), (1, .ref (ad 0)), (2, .ref aq), (3, .ref ab), (4, .ref am), (5, .int y5_40)] → W p l e room_1 s m #[Value.ref b] below meth c H locs 99 67507 Q (F0 m 40 ls []) := by
    intro fu
    induction fu with
    | zero => intro y5_40 q_40 bl_40 me_40 T_40 R_40 Y_40 B_40 hd; exact no_some hd
    | succ fu ih =>
      intro y5_40 q_40 bl_40 me_40 T_40 R_40 Y_40 B_40 hd H locs ls hP hD hS hl
      rw [den_L_law_L40] at hd
      refine lv_iload hx hb dL_law_40 (lv_at hl 5 rfl) ?_
      refine lv_bipush (v := 26) hx hb dL_law_42 (by decide) ?_
      refine lv_icmp_ge (tgt := 753) hx hb dL_law_44 (by decide) (fun c2 => ?_) (fun c2 => ?_)
      · replace hd := ite_t c2 hd
        cases hd
        exact Kq1 _ _ _ hP hD hS (lv_sub hl [] rfl)
      · replace hd := ite_f c2 hd
        refine lv_aload_n hx hb dL_law_47 rfl (lv_at hl 0 rfl) ?_
        refine lv_iconst (v := 2) hx hb dL_law_48 (by decide) ?_
        refine lv_iload hx hb dL_law_49 (lv_at hl 5 rfl) ?_
        refine lv_imul hx hb dL_law_51 ?_
        obtain ⟨q3, hq3, hd⟩ := bnd_some hd
        refine va_calli (va_runS (As := [.ref b, .int ((2 : Int32) * y5_40)]) (rest := []) ⟨hx, hb, hml, hown, hts⟩ (c_L_cellX l b L H.size xs ((2 : Int32) * y5_40) q3 hq3) (va_cwS 2 hts gL_law_L_cell rfl rfl rfl hp_L_cell ⟨Nat.le_of_ble_eq_true rfl, Nat.le_of_ble_eq_true rfl⟩) ⟨preX_fb, fun U hU hW => preX_mk hU hW hX hbl hbA hS⟩ rfl rfl hl.1 rfl (lv_room (Nat.le_of_ble_eq_true rfl)) dL_law_52 ⟨Nat.le_of_ble_eq_true rfl, Nat.le_of_ble_eq_true rfl⟩) hS (fun q _ h => hA q (Nat.le_trans hS.1 h)) (fun q h => hA q (Nat.le_trans hS.1 h)) (fun r_ u_ t H locs ht hvm hw hB hz1 hk1 hS => ?_)
        have hw : r_ = q3 := hw
        have hw := hw.symm
        subst hw
        have hP := P_old hP hk1
        clear hk1 hB ht hz1 hvm
        refine lv_istore (lv' := [(6, .int q3), (0, .ref b), (1, .ref (ad 0)), (2, .ref aq), (3, .ref ab), (4, .ref am), (5, .int y5_40)]) hx hb dL_law_55 hl (by decide) rfl (fun ls hl => ?_)
        refine lv_aload_n hx hb dL_law_57 rfl (lv_at hl 1 rfl) ?_
        refine lv_iconst (v := 2) hx hb dL_law_58 (by decide) ?_
        refine lv_iload hx hb dL_law_59 (lv_at hl 6 rfl) ?_
        refine lv_imul hx hb dL_law_61 ?_
        refine lv_iconst (v := 1) hx hb dL_law_62 (by decide) ?_
        refine lv_iadd hx hb dL_law_63 ?_
        obtain ⟨q4, hq4, hd⟩ := bnd_some hd
        refine va_calli (va_runS (As := [.ref b, .int (((2 : Int32) * y5_40) + (1 : Int32))]) (rest := []) ⟨hx, hb, hml, hown, hts⟩ (c_L_cellX l b L H.size xs (((2 : Int32) * y5_40) + (1 : Int32)) q4 hq4) (va_cwS 2 hts gL_law_L_cell rfl rfl rfl hp_L_cell ⟨Nat.le_of_ble_eq_true rfl, Nat.le_of_ble_eq_true rfl⟩) ⟨preX_fb, fun U hU hW => preX_mk hU hW hX hbl hbA hS⟩ rfl rfl hl.1 rfl (lv_room (Nat.le_of_ble_eq_true rfl)) dL_law_64 ⟨Nat.le_of_ble_eq_true rfl, Nat.le_of_ble_eq_true rfl⟩) hS (fun q _ h => hA q (Nat.le_trans hS.1 h)) (fun q h => hA q (Nat.le_trans hS.1 h)) (fun r_ u_ t H locs ht hvm hw hB hz1 hk1 hS => ?_)
        have hw : r_ = q4 := hw
        have hw := hw.symm
        subst hw
        have hP := P_old hP hk1
        clear hk1 hB ht hz1 hvm
        refine lv_istore (lv' := [(7, .int q4), (6, .int q3), (0, .ref b), (1, .ref (ad 0)), (2, .ref aq), (3, .ref ab), (4, .ref am), (5, .int y5_40)]) hx hb dL_law_67 hl (by decide) rfl (fun ls hl => ?_)
        refine lv_iload hx hb dL_law_69 (lv_at hl 7 rfl) ?_
        refine lv_iconst (v := 2) hx hb dL_law_71 (by decide) ?_
        obtain ⟨q5, hq5, hd⟩ := bnd_some hd
        have Kq5 : ∀ (H : Heap) (locs : List Loc) (ls : Array Slot), va_P (dC, dI) vwCl ([(aq, .inl (cI, 5, .inl q_40)), (ab, .inl (cI, 48, .inl bl_40)), (am, .inl (cL, 64, .inr (.inl me_40)))] ++ mod cI cC cT cL ad fr T_40 R_40 P Y_40 S B_40) H → va_D A ([(aq, .inl (cI, 5, .inl q_40)), (ab, .inl (cI, 48, .inl bl_40)), (am, .inl (cL, 64, .inr (.inl me_40)))] ++ mod cI cC cT cL ad fr T_40 R_40 P Y_40 S B_40) → va_S A s.heap H locs → lv_has ls 14 [(0, .ref b), (1, .ref (ad 0)), (2, .ref aq), (3, .ref ab), (4, .ref am), (5, .int y5_40), (6, .int q3), (7, .int q4)] → W p l e room_1 s m #[Value.ref b] below meth c H locs 99 67507 Q (F0 m 86 ls [.int q5]) := by
          intro H locs ls hP hD hS hl
          refine lv_istore (lv' := [(8, .int q5), (0, .ref b), (1, .ref (ad 0)), (2, .ref aq), (3, .ref ab), (4, .ref am), (5, .int y5_40), (6, .int q3), (7, .int q4)]) hx hb dL_law_86 hl (by decide) rfl (fun ls hl => ?_)
          refine lv_iload hx hb dL_law_88 (lv_at hl 0 rfl) ?_
          refine lv_iconst (v := 2) hx hb dL_law_90 (by decide) ?_
          obtain ⟨q6, hq6, hd⟩ := bnd_some hd
          have Kq6 : ∀ (H : Heap) (locs : List Loc) (ls : Array Slot), va_P (dC, dI) vwCl ([(aq, .inl (cI, 5, .inl q6.1)), (ab, .inl (cI, 48, .inl q6.2.1)), (am, .inl (cL, 64, .inr (.inl q6.2.2.1)))] ++ mod cI cC cT cL ad fr q6.2.2.2.1 R_40 P q6.2.2.2.2 S B_40) H → va_D A ([(aq, .inl (cI, 5, .inl q6.1)), (ab, .inl (cI, 48, .inl q6.2.1)), (am, .inl (cL, 64, .inr (.inl q6.2.2.1)))] ++ mod cI cC cT cL ad fr q6.2.2.2.1 R_40 P q6.2.2.2.2 S B_40) → va_S A s.heap H locs → lv_has ls 14 [(0, .ref b), (1, .ref (ad 0)), (2, .ref aq), (3, .ref ab), (4, .ref am), (5, .int y5_40), (7, .int q4)] → W p l e room_1 s m #[Value.ref b] below meth c H locs 99 67507 Q (F0 m 730 ls []) := by
            intro H locs ls hP hD hS hl
            refine lv_aload_n hx hb dL_law_730 rfl (lv_at hl 1 rfl) ?_
            refine lv_iload hx hb dL_law_731 (lv_at hl 6 rfl) ?_
            refine lv_iconst (v := 1) hx hb dL_law_733 (by decide) ?_
            refine lv_ishr hx hb dL_law_734 ?_
            refine lv_aload_n hx hb dL_law_735 rfl (lv_at hl 2 rfl) ?_
            refine lv_aload_n hx hb dL_law_736 rfl (lv_at hl 3 rfl) ?_
            refine lv_aload hx hb dL_law_737 (lv_at hl 4 rfl) ?_
            obtain ⟨q7, hq7, hd⟩ := bnd_some hd
            have hFc := F_all hD hS hA
            refine va_calli (va_runS (As := [.ref (ad 0), .int (q4 >>> ((1 : Int32) &&& 31)), .ref aq, .ref ab, .ref am]) (rest := []) ⟨hx, hb, hml, hown, hts⟩ (c_L_same l dC dI cI cC cT cL ad fr hfr0 hfr1 hfr2 hfr3 hfr4 hfr5 aq ab am H.size q6.1 q6.2.1 q6.2.2.1 q6.2.2.2.1 R_40 P q6.2.2.2.2 S B_40 (q4 >>> ((1 : Int32) &&& 31)) q7 hq7) (va_cwS 5 hts gL_law_L_same rfl rfl rfl hp_L_same ⟨Nat.le_of_ble_eq_true rfl, Nat.le_of_ble_eq_true rfl⟩) ⟨preB_fb, fun U hU hW => preB_mk hU hW hP hK hD hN⟩ rfl rfl hl.1 rfl (lv_room (Nat.le_of_ble_eq_true rfl)) dL_law_739 ⟨Nat.le_of_ble_eq_true rfl, Nat.le_of_ble_eq_true rfl⟩) hS (fun q _ h => hFc q h) hFc (fun r_ u_ t H locs ht hvm hw hB hz1 hk1 hS => ?_)
            have hw : r_ = (1 : Int32) := hw
            have hw := hw.symm
            subst hw
            obtain ⟨hP, hD⟩ := x_joinA hP hD hFc ht hB
            clear hFc hk1 hB ht hz1 hvm
            have hP : va_P (dC, dI) vwCl ([(aq, .inl (cI, 5, .inl q6.1)), (ab, .inl (cI, 48, .inl q6.2.1)), (am, .inl (cL, 64, .inr (.inl q6.2.2.1)))] ++ mod cI cC cT cL ad fr q6.2.2.2.1 q7.1 P q6.2.2.2.2 S q7.2) H := hP
            have hD : va_D A ([(aq, .inl (cI, 5, .inl q6.1)), (ab, .inl (cI, 48, .inl q6.2.1)), (am, .inl (cL, 64, .inr (.inl q6.2.2.1)))] ++ mod cI cC cT cL ad fr q6.2.2.2.1 q7.1 P q6.2.2.2.2 S q7.2) := hD
            refine lv_if_ne (tgt := 747) hx hb dL_law_742 (by decide) (fun c8 => ?_) (fun c8 => ?_)
            · replace hd := ite_f c8 hd
              refine lv_iinc (v := (y5_40 + (1 : Int32))) (lv' := [(5, .int (y5_40 + (1 : Int32))), (0, .ref b), (1, .ref (ad 0)), (2, .ref aq), (3, .ref ab), (4, .ref am), (7, .int q4)]) hx hb dL_law_747 hl (k := 5) rfl (by first | rfl | decide) (by decide) rfl (fun ls hl => ?_)
              refine lv_goto (tgt := 40) hx hb dL_law_750 (by decide) ?_
              exact ih (y5_40 + (1 : Int32)) q6.1 q6.2.1 q6.2.2.1 q6.2.2.2.1 q7.1 q6.2.2.2.2 q7.2 hd _ _ _ hP hD hS (lv_sub hl [1, 2, 3, 4, 5, 0] rfl)
            · replace hd := ite_t c8 hd
              refine lv_iconst (v := 0) hx hb dL_law_745 (by decide) ?_
              exact no_some hd
          replace hd := hq6
          clear hq6
          refine lv_icmp_ge (tgt := 347) hx hb dL_law_91 (by decide) (fun c9 => ?_) (fun c9 => ?_)
          · replace hd := ite_t c9 hd
            refine lv_iload hx hb dL_law_347 (lv_at hl 0 rfl) ?_
            refine lv_iconst (v := 2) hx hb dL_law_349 (by decide) ?_
            obtain ⟨J10, eJ10, hd⟩ := nm_ex hd
            have KJ10 : ∀ (u_ : Unit) (hd : J10 u_ = some q6) (H : Heap) (locs : List Loc) (ls : Array Slot), va_P (dC, dI) vwCl ([(aq, .inl (cI, 5, .inl q_40)), (ab, .inl (cI, 48, .inl bl_40)), (am, .inl (cL, 64, .inr (.inl me_40)))] ++ mod cI cC cT cL ad fr T_40 R_40 P Y_40 S B_40) H → va_D A ([(aq, .inl (cI, 5, .inl q_40)), (ab, .inl (cI, 48, .inl bl_40)), (am, .inl (cL, 64, .inr (.inl me_40)))] ++ mod cI cC cT cL ad fr T_40 R_40 P Y_40 S B_40) → va_S A s.heap H locs → lv_has ls 14 [(0, .ref b), (1, .ref (ad 0)), (2, .ref aq), (3, .ref ab), (4, .ref am), (5, .int y5_40), (6, .int q3), (7, .int q4), (8, .int q5)] → W p l e room_1 s m #[Value.ref b] below meth c H locs 99 67507 Q (F0 m 414 ls []) := by
              intro u_ hd H locs ls hP hD hS hl
              replace hd := jx1 eJ10 hd
              refine lv_aload_n hx hb dL_law_414 rfl (lv_at hl 2 rfl) ?_
              refine lv_iconst (v := 4) hx hb dL_law_415 (by decide) ?_
              refine x_iald (k := 4) hx hb hK hP 0 0 rfl rfl (inb_in (by decide)) rfl dL_law_416 ?_
              refine lv_if_ne (tgt := 431) hx hb dL_law_417 (by decide) (fun c11 => ?_) (fun c11 => ?_)
              · replace hd := ite_f c11 hd
                refine lv_iload hx hb dL_law_431 (lv_at hl 8 rfl) ?_
                refine lv_bipush (v := 6) hx hb dL_law_433 (by decide) ?_
                refine lv_icmp_ge (tgt := 511) hx hb dL_law_435 (by decide) (fun c12 => ?_) (fun c12 => ?_)
                · replace hd := ite_t c12 hd
                  refine lv_iload hx hb dL_law_511 (lv_at hl 8 rfl) ?_
                  refine lv_bipush (v := 9) hx hb dL_law_513 (by decide) ?_
                  refine lv_icmp_ge (tgt := 677) hx hb dL_law_515 (by decide) (fun c13 => ?_) (fun c13 => ?_)
                  · replace hd := ite_t c13 hd
                    refine lv_iload hx hb dL_law_677 (lv_at hl 7 rfl) ?_
                    refine lv_iconst (v := 3) hx hb dL_law_679 (by decide) ?_
                    obtain ⟨q14, hq14, hd⟩ := bnd_some hd
                    have hPc : va_P (dC, dI) vwCl [] _ := hP.sub [] rfl
                    have hDc := hD.sub (ws' := []) [] (by decide) rfl
                    have hFc := va_free (wc := []) hD hS hA [] rfl
                    refine va_calli (va_runS (As := [.int q4, .int (3 : Int32)]) (rest := []) ⟨hx, hb, hml, hown, hts⟩ (c_L_low l dC dI cI cC cT cL H.size q4 (3 : Int32) q14 hq14) (va_cwS 2 hts gL_law_L_low rfl rfl rfl hp_L_low ⟨Nat.le_of_ble_eq_true rfl, Nat.le_of_ble_eq_true rfl⟩) ⟨preB_fb, fun U hU hW => preB_mk hU hW hPc hK hDc hN⟩ rfl rfl hl.1 rfl (lv_room (Nat.le_of_ble_eq_true rfl)) dL_law_680 ⟨Nat.le_of_ble_eq_true rfl, Nat.le_of_ble_eq_true rfl⟩) hS (fun q _ h => hFc q h) hFc (fun r_ u_ t H locs ht hvm hw hB hz1 hk1 hS => ?_)
                    have hw : r_ = q14 := hw
                    have hw := hw.symm
                    subst hw
                    obtain ⟨hP, hD⟩ := x_joinL (r' := [(aq, .inl (cI, 5, .inl q_40)), (ab, .inl (cI, 48, .inl bl_40)), (am, .inl (cL, 64, .inr (.inl me_40)))]) hP hD [] [0, 1, 2] rfl rfl (by decide) (by decide) hk1 hFc ht hB [0, 1, 2] (by decide) rfl rfl
                    clear hPc hDc hFc hk1 hB ht hz1 hvm
                    refine lv_istore (lv' := [(9, .int q14), (0, .ref b), (1, .ref (ad 0)), (2, .ref aq), (3, .ref ab), (4, .ref am), (5, .int y5_40), (6, .int q3), (7, .int q4), (8, .int q5)]) hx hb dL_law_683 hl (by decide) rfl (fun ls hl => ?_)
                    refine lv_iload hx hb dL_law_685 (lv_at hl 8 rfl) ?_
                    refine lv_iconst (v := 2) hx hb dL_law_687 (by decide) ?_
                    refine lv_ishr hx hb dL_law_688 ?_
                    refine lv_iload hx hb dL_law_689 (lv_at hl 0 rfl) ?_
                    refine lv_iconst (v := 2) hx hb dL_law_691 (by decide) ?_
                    obtain ⟨q15, hq15, hd⟩ := bnd_some hd
                    have Kq15 : ∀ (H : Heap) (locs : List Loc) (ls : Array Slot), va_P (dC, dI) vwCl ([(aq, .inl (cI, 5, .inl q_40)), (ab, .inl (cI, 48, .inl bl_40)), (am, .inl (cL, 64, .inr (.inl me_40)))] ++ mod cI cC cT cL ad fr T_40 R_40 P Y_40 S B_40) H → va_D A ([(aq, .inl (cI, 5, .inl q_40)), (ab, .inl (cI, 48, .inl bl_40)), (am, .inl (cL, 64, .inr (.inl me_40)))] ++ mod cI cC cT cL ad fr T_40 R_40 P Y_40 S B_40) → va_S A s.heap H locs → lv_has ls 14 [(0, .ref b), (1, .ref (ad 0)), (2, .ref aq), (3, .ref ab), (4, .ref am), (5, .int y5_40), (7, .int q4), (9, .int q14)] → W p l e room_1 s m #[Value.ref b] below meth c H locs 99 67507 Q (F0 m 702 ls [.int q15, .int (q4 >>> ((2 : Int32) &&& 31))]) := by
                      intro H locs ls hP hD hS hl
                      obtain ⟨q16, hq16, hd⟩ := bnd_some hd
                      have hPc : va_P (dC, dI) vwCl [] _ := hP.sub [] rfl
                      have hDc := hD.sub (ws' := []) [] (by decide) rfl
                      have hFc := va_free (wc := []) hD hS hA [] rfl
                      refine va_calli (va_runS (As := [.int (q4 >>> ((2 : Int32) &&& 31)), .int q15]) (rest := []) ⟨hx, hb, hml, hown, hts⟩ (c_L_low l dC dI cI cC cT cL H.size (q4 >>> ((2 : Int32) &&& 31)) q15 q16 hq16) (va_cwS 2 hts gL_law_L_low rfl rfl rfl hp_L_low ⟨Nat.le_of_ble_eq_true rfl, Nat.le_of_ble_eq_true rfl⟩) ⟨preB_fb, fun U hU hW => preB_mk hU hW hPc hK hDc hN⟩ rfl rfl hl.1 rfl (lv_room (Nat.le_of_ble_eq_true rfl)) dL_law_702 ⟨Nat.le_of_ble_eq_true rfl, Nat.le_of_ble_eq_true rfl⟩) hS (fun q _ h => hFc q h) hFc (fun r_ u_ t H locs ht hvm hw hB hz1 hk1 hS => ?_)
                      have hw : r_ = q16 := hw
                      have hw := hw.symm
                      subst hw
                      obtain ⟨hP, hD⟩ := x_joinL (r' := [(aq, .inl (cI, 5, .inl q_40)), (ab, .inl (cI, 48, .inl bl_40)), (am, .inl (cL, 64, .inr (.inl me_40)))]) hP hD [] [0, 1, 2] rfl rfl (by decide) (by decide) hk1 hFc ht hB [0, 1, 2] (by decide) rfl rfl
                      clear hPc hDc hFc hk1 hB ht hz1 hvm
                      refine lv_istore (lv' := [(10, .int q16), (0, .ref b), (1, .ref (ad 0)), (2, .ref aq), (3, .ref ab), (4, .ref am), (5, .int y5_40), (7, .int q4), (9, .int q14)]) hx hb dL_law_705 hl (by decide) rfl (fun ls hl => ?_)
                      refine lv_aload_n hx hb dL_law_707 rfl (lv_at hl 2 rfl) ?_
                      refine lv_iload hx hb dL_law_708 (lv_at hl 8 rfl) ?_
                      refine lv_iload hx hb dL_law_710 (lv_at hl 0 rfl) ?_
                      obtain ⟨q17, hq17, hd⟩ := bnd_some hd
                      have hPc := P_r hP
                      have hDc := D_r hD
                      have hFc := F_r hD hS hA
                      refine va_calli (va_runV (As := [.int q14, .int q16]) (rest := []) ⟨hx, hb, hml, hown, hts⟩ (w_set l dC dI cI cC cT cL ad fr hfr0 hfr1 hfr2 hfr3 hfr4 hfr5 H.size T_40 R_40 P Y_40 S B_40 q14 q16 q17 hq17) (cwV 2 hts gL_law_X6_set rfl rfl rfl hv_X6_set ⟨Nat.le_of_ble_eq_true rfl, Nat.le_of_ble_eq_true rfl⟩) ⟨preB_fb, va_recv hK hPc (ci := 6) (q0 := 0) rfl rfl, fun U hU hW => preB_mk hU hW hPc hK hDc hN⟩ rfl rfl hl.1 rfl (lv_room (Nat.le_of_ble_eq_true rfl)) dL_law_712 ⟨Nat.le_of_ble_eq_true rfl, Nat.le_of_ble_eq_true rfl⟩) hS (fun q _ h => hFc q h) hFc (fun r_ u_ t H locs ht hvm hw hB hz1 hk1 hS => ?_)
                      have hw : r_ = q17.1 := hw
                      have hw := hw.symm
                      subst hw
                      obtain ⟨hP, hD⟩ := x_joinR hP hD hk1 hFc ht hB
                      clear hPc hDc hFc hk1 hB ht hz1 hvm
                      refine lv_aload_n hx hb dL_law_715 rfl (lv_at hl 3 rfl) ?_
                      refine lv_iload hx hb dL_law_716 (lv_at hl 8 rfl) ?_
                      obtain ⟨g18, hd⟩ := gd_some hd
                      refine x_iald (k := q14.toNatClampNeg) hx hb hK hP 0 0 rfl rfl (inb_in g18) rfl dL_law_718 ?_
                      refine lv_icmp_eq (tgt := 724) hx hb dL_law_719 (by decide) (fun c19 => ?_) (fun c19 => ?_)
                      · replace hd := ite_t c19 hd
                        refine lv_aload_n hx hb dL_law_724 rfl (lv_at hl 3 rfl) ?_
                        refine lv_iload hx hb dL_law_725 (lv_at hl 8 rfl) ?_
                        refine lv_iload hx hb dL_law_727 (lv_at hl 0 rfl) ?_
                        obtain ⟨g20, hd⟩ := gd_some hd
                        refine x_iast (k := q14.toNatClampNeg) hx hb hK hP hD hS 0 0 rfl rfl (inb_in g20) rfl dL_law_729 (fun H locs hP hD hS => ?_)
                        have hP : va_P (dC, dI) vwCl ([(aq, .inl (cI, 5, .inl (upd q_40 q14.toNatClampNeg q16))), (ab, .inl (cI, 48, .inl bl_40)), (am, .inl (cL, 64, .inr (.inl me_40)))] ++ mod cI cC cT cL ad fr q17.2.1 R_40 P q17.2.2 S B_40) H := hP
                        have hD : va_D A ([(aq, .inl (cI, 5, .inl (upd q_40 q14.toNatClampNeg q16))), (ab, .inl (cI, 48, .inl bl_40)), (am, .inl (cL, 64, .inr (.inl me_40)))] ++ mod cI cC cT cL ad fr q17.2.1 R_40 P q17.2.2 S B_40) := hD
                        cases hd
                        exact Kq6 _ _ _ hP hD hS (lv_sub hl [1, 2, 3, 4, 5, 6, 7] rfl)
                      · replace hd := ite_f c19 hd
                        refine lv_iconst (v := 0) hx hb dL_law_722 (by decide) ?_
                        exact no_some hd
                    replace hd := hq15
                    clear hq15
                    refine lv_icmp_ne (tgt := 700) hx hb dL_law_692 (by decide) (fun c21 => ?_) (fun c21 => ?_)
                    · replace hd := ite_f c21 hd
                      refine lv_bipush (v := 100) hx hb dL_law_700 (by decide) ?_
                      cases hd
                      exact Kq15 _ _ _ hP hD hS (lv_sub hl [1, 2, 3, 4, 5, 6, 8, 0] rfl)
                    · replace hd := ite_t c21 hd
                      refine lv_bipush (v := 21) hx hb dL_law_695 (by decide) ?_
                      refine lv_goto (tgt := 702) hx hb dL_law_697 (by decide) ?_
                      cases hd
                      exact Kq15 _ _ _ hP hD hS (lv_sub hl [1, 2, 3, 4, 5, 6, 8, 0] rfl)
                  · replace hd := ite_f c13 hd
                    refine lv_iload hx hb dL_law_518 (lv_at hl 7 rfl) ?_
                    refine lv_aload_n hx hb dL_law_520 rfl (lv_at hl 2 rfl) ?_
                    refine lv_iconst (v := 4) hx hb dL_law_521 (by decide) ?_
                    refine x_iald (k := 4) hx hb hK hP 0 0 rfl rfl (inb_in (by decide)) rfl dL_law_522 ?_
                    obtain ⟨q22, hq22, hd⟩ := bnd_some hd
                    have hPc : va_P (dC, dI) vwCl [] _ := hP.sub [] rfl
                    have hDc := hD.sub (ws' := []) [] (by decide) rfl
                    have hFc := va_free (wc := []) hD hS hA [] rfl
                    refine va_calli (va_runS (As := [.int q4, .int (q_40 4)]) (rest := []) ⟨hx, hb, hml, hown, hts⟩ (c_L_low l dC dI cI cC cT cL H.size q4 (q_40 4) q22 hq22) (va_cwS 2 hts gL_law_L_low rfl rfl rfl hp_L_low ⟨Nat.le_of_ble_eq_true rfl, Nat.le_of_ble_eq_true rfl⟩) ⟨preB_fb, fun U hU hW => preB_mk hU hW hPc hK hDc hN⟩ rfl rfl hl.1 rfl (lv_room (Nat.le_of_ble_eq_true rfl)) dL_law_523 ⟨Nat.le_of_ble_eq_true rfl, Nat.le_of_ble_eq_true rfl⟩) hS (fun q _ h => hFc q h) hFc (fun r_ u_ t H locs ht hvm hw hB hz1 hk1 hS => ?_)
                    have hw : r_ = q22 := hw
                    have hw := hw.symm
                    subst hw
                    obtain ⟨hP, hD⟩ := x_joinL (r' := [(aq, .inl (cI, 5, .inl q_40)), (ab, .inl (cI, 48, .inl bl_40)), (am, .inl (cL, 64, .inr (.inl me_40)))]) hP hD [] [0, 1, 2] rfl rfl (by decide) (by decide) hk1 hFc ht hB [0, 1, 2] (by decide) rfl rfl
                    clear hPc hDc hFc hk1 hB ht hz1 hvm
                    refine lv_istore (lv' := [(9, .int q22), (0, .ref b), (1, .ref (ad 0)), (2, .ref aq), (3, .ref ab), (4, .ref am), (5, .int y5_40), (6, .int q3), (7, .int q4), (8, .int q5)]) hx hb dL_law_526 hl (by decide) rfl (fun ls hl => ?_)
                    refine lv_iload hx hb dL_law_528 (lv_at hl 0 rfl) ?_
                    refine lv_iload hx hb dL_law_530 (lv_at hl 8 rfl) ?_
                    refine lv_bipush (v := 7) hx hb dL_law_532 (by decide) ?_
                    refine lv_ishr hx hb dL_law_534 ?_
                    refine lv_iload hx hb dL_law_535 (lv_at hl 7 rfl) ?_
                    refine lv_iconst (v := 5) hx hb dL_law_537 (by decide) ?_
                    refine lv_ishr hx hb dL_law_538 ?_
                    refine lv_iconst (v := 2) hx hb dL_law_539 (by decide) ?_
                    obtain ⟨q23, hq23, hd⟩ := bnd_some hd
                    have hPc : va_P (dC, dI) vwCl [] _ := hP.sub [] rfl
                    have hDc := hD.sub (ws' := []) [] (by decide) rfl
                    have hFc := va_free (wc := []) hD hS hA [] rfl
                    refine va_calli (va_runS (As := [.int (q3 >>> ((5 : Int32) &&& 31)), .int (2 : Int32)]) (rest := [.int (q4 >>> ((7 : Int32) &&& 31)), .int q22]) ⟨hx, hb, hml, hown, hts⟩ (c_L_low l dC dI cI cC cT cL H.size (q3 >>> ((5 : Int32) &&& 31)) (2 : Int32) q23 hq23) (va_cwS 2 hts gL_law_L_low rfl rfl rfl hp_L_low ⟨Nat.le_of_ble_eq_true rfl, Nat.le_of_ble_eq_true rfl⟩) ⟨preB_fb, fun U hU hW => preB_mk hU hW hPc hK hDc hN⟩ rfl rfl hl.1 rfl (lv_room (Nat.le_of_ble_eq_true rfl)) dL_law_540 ⟨Nat.le_of_ble_eq_true rfl, Nat.le_of_ble_eq_true rfl⟩) hS (fun q _ h => hFc q h) hFc (fun r_ u_ t H locs ht hvm hw hB hz1 hk1 hS => ?_)
                    have hw : r_ = q23 := hw
                    have hw := hw.symm
                    subst hw
                    obtain ⟨hP, hD⟩ := x_joinL (r' := [(aq, .inl (cI, 5, .inl q_40)), (ab, .inl (cI, 48, .inl bl_40)), (am, .inl (cL, 64, .inr (.inl me_40)))]) hP hD [] [0, 1, 2] rfl rfl (by decide) (by decide) hk1 hFc ht hB [0, 1, 2] (by decide) rfl rfl
                    clear hPc hDc hFc hk1 hB ht hz1 hvm
                    obtain ⟨q24, hq24, hd⟩ := bnd_some hd
                    have Kq24 : ∀ (H : Heap) (locs : List Loc) (ls : Array Slot), va_P (dC, dI) vwCl ([(aq, .inl (cI, 5, .inl q_40)), (ab, .inl (cI, 48, .inl bl_40)), (am, .inl (cL, 64, .inr (.inl me_40)))] ++ mod cI cC cT cL ad fr T_40 R_40 P Y_40 S B_40) H → va_D A ([(aq, .inl (cI, 5, .inl q_40)), (ab, .inl (cI, 48, .inl bl_40)), (am, .inl (cL, 64, .inr (.inl me_40)))] ++ mod cI cC cT cL ad fr T_40 R_40 P Y_40 S B_40) → va_S A s.heap H locs → lv_has ls 14 [(0, .ref b), (1, .ref (ad 0)), (2, .ref aq), (3, .ref ab), (4, .ref am), (5, .int y5_40), (7, .int q4), (9, .int q22)] → W p l e room_1 s m #[Value.ref b] below meth c H locs 99 67507 Q (F0 m 552 ls [.int q24, .int (q4 >>> ((7 : Int32) &&& 31)), .int q22]) := by
                      intro H locs ls hP hD hS hl
                      obtain ⟨q25, hq25, hd⟩ := bnd_some hd
                      have hPc : va_P (dC, dI) vwCl [] _ := hP.sub [] rfl
                      have hDc := hD.sub (ws' := []) [] (by decide) rfl
                      have hFc := va_free (wc := []) hD hS hA [] rfl
                      refine va_calli (va_runS (As := [.int (q4 >>> ((7 : Int32) &&& 31)), .int q24]) (rest := [.int q22]) ⟨hx, hb, hml, hown, hts⟩ (c_L_low l dC dI cI cC cT cL H.size (q4 >>> ((7 : Int32) &&& 31)) q24 q25 hq25) (va_cwS 2 hts gL_law_L_low rfl rfl rfl hp_L_low ⟨Nat.le_of_ble_eq_true rfl, Nat.le_of_ble_eq_true rfl⟩) ⟨preB_fb, fun U hU hW => preB_mk hU hW hPc hK hDc hN⟩ rfl rfl hl.1 rfl (lv_room (Nat.le_of_ble_eq_true rfl)) dL_law_552 ⟨Nat.le_of_ble_eq_true rfl, Nat.le_of_ble_eq_true rfl⟩) hS (fun q _ h => hFc q h) hFc (fun r_ u_ t H locs ht hvm hw hB hz1 hk1 hS => ?_)
                      have hw : r_ = q25 := hw
                      have hw := hw.symm
                      subst hw
                      obtain ⟨hP, hD⟩ := x_joinL (r' := [(aq, .inl (cI, 5, .inl q_40)), (ab, .inl (cI, 48, .inl bl_40)), (am, .inl (cL, 64, .inr (.inl me_40)))]) hP hD [] [0, 1, 2] rfl rfl (by decide) (by decide) hk1 hFc ht hB [0, 1, 2] (by decide) rfl rfl
                      clear hPc hDc hFc hk1 hB ht hz1 hvm
                      refine lv_iadd hx hb dL_law_555 ?_
                      refine lv_istore (lv' := [(10, .int (q22 + q25)), (0, .ref b), (1, .ref (ad 0)), (2, .ref aq), (3, .ref ab), (4, .ref am), (5, .int y5_40), (7, .int q4), (9, .int q22)]) hx hb dL_law_556 hl (by decide) rfl (fun ls hl => ?_)
                      refine lv_iload hx hb dL_law_558 (lv_at hl 0 rfl) ?_
                      refine lv_aload_n hx hb dL_law_560 rfl (lv_at hl 3 rfl) ?_
                      refine lv_iconst (v := 4) hx hb dL_law_561 (by decide) ?_
                      refine x_iald (k := 4) hx hb hK hP 0 0 rfl rfl (inb_in (by decide)) rfl dL_law_562 ?_
                      obtain ⟨q26, hq26, hd⟩ := bnd_some hd
                      have Kq26 : ∀ (H : Heap) (locs : List Loc) (ls : Array Slot), va_P (dC, dI) vwCl ([(aq, .inl (cI, 5, .inl q_40)), (ab, .inl (cI, 48, .inl bl_40)), (am, .inl (cL, 64, .inr (.inl me_40)))] ++ mod cI cC cT cL ad fr T_40 R_40 P Y_40 S B_40) H → va_D A ([(aq, .inl (cI, 5, .inl q_40)), (ab, .inl (cI, 48, .inl bl_40)), (am, .inl (cL, 64, .inr (.inl me_40)))] ++ mod cI cC cT cL ad fr T_40 R_40 P Y_40 S B_40) → va_S A s.heap H locs → lv_has ls 14 [(0, .ref b), (1, .ref (ad 0)), (2, .ref aq), (3, .ref ab), (4, .ref am), (5, .int y5_40), (7, .int q4), (9, .int q22)] → W p l e room_1 s m #[Value.ref b] below meth c H locs 99 67507 Q (F0 m 576 ls [.int q26]) := by
                        intro H locs ls hP hD hS hl
                        refine lv_istore (lv' := [(10, .int q26), (0, .ref b), (1, .ref (ad 0)), (2, .ref aq), (3, .ref ab), (4, .ref am), (5, .int y5_40), (7, .int q4), (9, .int q22)]) hx hb dL_law_576 hl (by decide) rfl (fun ls hl => ?_)
                        refine lv_iload hx hb dL_law_578 (lv_at hl 7 rfl) ?_
                        refine lv_bipush (v := 11) hx hb dL_law_580 (by decide) ?_
                        refine lv_ishr hx hb dL_law_582 ?_
                        refine lv_bipush (v := 100) hx hb dL_law_583 (by decide) ?_
                        obtain ⟨q27, hq27, hd⟩ := bnd_some hd
                        have hPc : va_P (dC, dI) vwCl [] _ := hP.sub [] rfl
                        have hDc := hD.sub (ws' := []) [] (by decide) rfl
                        have hFc := va_free (wc := []) hD hS hA [] rfl
                        refine va_calli (va_runS (As := [.int (q4 >>> ((11 : Int32) &&& 31)), .int (100 : Int32)]) (rest := []) ⟨hx, hb, hml, hown, hts⟩ (c_L_low l dC dI cI cC cT cL H.size (q4 >>> ((11 : Int32) &&& 31)) (100 : Int32) q27 hq27) (va_cwS 2 hts gL_law_L_low rfl rfl rfl hp_L_low ⟨Nat.le_of_ble_eq_true rfl, Nat.le_of_ble_eq_true rfl⟩) ⟨preB_fb, fun U hU hW => preB_mk hU hW hPc hK hDc hN⟩ rfl rfl hl.1 rfl (lv_room (Nat.le_of_ble_eq_true rfl)) dL_law_585 ⟨Nat.le_of_ble_eq_true rfl, Nat.le_of_ble_eq_true rfl⟩) hS (fun q _ h => hFc q h) hFc (fun r_ u_ t H locs ht hvm hw hB hz1 hk1 hS => ?_)
                        have hw : r_ = q27 := hw
                        have hw := hw.symm
                        subst hw
                        obtain ⟨hP, hD⟩ := x_joinL (r' := [(aq, .inl (cI, 5, .inl q_40)), (ab, .inl (cI, 48, .inl bl_40)), (am, .inl (cL, 64, .inr (.inl me_40)))]) hP hD [] [0, 1, 2] rfl rfl (by decide) (by decide) hk1 hFc ht hB [0, 1, 2] (by decide) rfl rfl
                        clear hPc hDc hFc hk1 hB ht hz1 hvm
                        refine lv_istore (lv' := [(11, .int q27), (10, .int q26), (0, .ref b), (1, .ref (ad 0)), (2, .ref aq), (3, .ref ab), (4, .ref am), (5, .int y5_40), (7, .int q4), (9, .int q22)]) hx hb dL_law_588 hl (by decide) rfl (fun ls hl => ?_)
                        refine lv_iconst (v := 0) hx hb dL_law_590 (by decide) ?_
                        refine lv_istore (lv' := [(12, .int (0 : Int32)), (11, .int q27), (10, .int q26), (0, .ref b), (1, .ref (ad 0)), (2, .ref aq), (3, .ref ab), (4, .ref am), (5, .int y5_40), (7, .int q4), (9, .int q22)]) hx hb dL_law_591 hl (by decide) rfl (fun ls hl => ?_)
                        refine lv_iload hx hb dL_law_593 (lv_at hl 10 rfl) ?_
                        refine lv_istore (lv' := [(13, .int q22), (12, .int (0 : Int32)), (11, .int q27), (10, .int q26), (0, .ref b), (1, .ref (ad 0)), (2, .ref aq), (3, .ref ab), (4, .ref am), (5, .int y5_40), (7, .int q4), (9, .int q22)]) hx hb dL_law_595 hl (by decide) rfl (fun ls hl => ?_)
                        obtain ⟨q28, hq28, hd⟩ := bnd_some hd
                        have Kq28 : ∀ (H : Heap) (locs : List Loc) (ls : Array Slot), va_P (dC, dI) vwCl ([(aq, .inl (cI, 5, .inl q_40)), (ab, .inl (cI, 48, .inl bl_40)), (am, .inl (cL, 64, .inr (.inl q28.2)))] ++ mod cI cC cT cL ad fr T_40 R_40 P Y_40 S B_40) H → va_D A ([(aq, .inl (cI, 5, .inl q_40)), (ab, .inl (cI, 48, .inl bl_40)), (am, .inl (cL, 64, .inr (.inl q28.2)))] ++ mod cI cC cT cL ad fr T_40 R_40 P Y_40 S B_40) → va_S A s.heap H locs → lv_has ls 14 [(0, .ref b), (1, .ref (ad 0)), (2, .ref aq), (3, .ref ab), (4, .ref am), (5, .int y5_40), (7, .int q4), (9, .int q22), (10, .int q26), (11, .int q27), (12, .int q28.1)] → W p l e room_1 s m #[Value.ref b] below meth c H locs 99 67507 Q (F0 m 657 ls []) := by
                          intro H locs ls hP hD hS hl
                          refine lv_aload_n hx hb dL_law_657 rfl (lv_at hl 1 rfl) ?_
                          refine lv_iload hx hb dL_law_658 (lv_at hl 7 rfl) ?_
                          refine lv_iload hx hb dL_law_660 (lv_at hl 8 rfl) ?_
                          refine lv_iload hx hb dL_law_662 (lv_at hl 9 rfl) ?_
                          obtain ⟨q29, hq29, hd⟩ := bnd_some hd
                          have hPc := P_r hP
                          have hDc := D_r hD
                          have hFc := F_r hD hS hA
                          refine va_calli (va_runV (As := [.int q22, .int q26, .int q27]) (rest := []) ⟨hx, hb, hml, hown, hts⟩ (w_fade l dC dI cI cC cT cL ad fr hfr0 hfr1 hfr2 hfr3 hfr4 hfr5 H.size T_40 R_40 P Y_40 S B_40 q22 q26 q27 q29 hq29) (cwV 3 hts gL_law_X6_fade rfl rfl rfl hv_X6_fade ⟨Nat.le_of_ble_eq_true rfl, Nat.le_of_ble_eq_true rfl⟩) ⟨preB_fb, va_recv hK hPc (ci := 6) (q0 := 0) rfl rfl, fun U hU hW => preB_mk hU hW hPc hK hDc hN⟩ rfl rfl hl.1 rfl (lv_room (Nat.le_of_ble_eq_true rfl)) dL_law_664 ⟨Nat.le_of_ble_eq_true rfl, Nat.le_of_ble_eq_true rfl⟩) hS (fun q _ h => hFc q h) hFc (fun r_ u_ t H locs ht hvm hw hB hz1 hk1 hS => ?_)
                          have hw : r_ = q29.1 := hw
                          have hw := hw.symm
                          subst hw
                          obtain ⟨hP, hD⟩ := x_joinR hP hD hk1 hFc ht hB
                          clear hPc hDc hFc hk1 hB ht hz1 hvm
                          refine lv_iload hx hb dL_law_667 (lv_at hl 10 rfl) ?_
                          refine lv_icmp_eq (tgt := 674) hx hb dL_law_669 (by decide) (fun c30 => ?_) (fun c30 => ?_)
                          · replace hd := ite_t c30 hd
                            refine lv_goto (tgt := 730) hx hb dL_law_674 (by decide) ?_
                            cases hd
                            exact Kq6 _ _ _ hP hD hS (lv_sub hl [0, 1, 2, 3, 4, 5, 6] rfl)
                          · replace hd := ite_f c30 hd
                            refine lv_iconst (v := 0) hx hb dL_law_672 (by decide) ?_
                            exact no_some hd
                        clear hd
                        have KL36 : ∀ (fu : Nat) (y12_597 : Int32) (y13_597 : Int32) (me_597 : (Nat → Int64)) (hd : den_L_law_L597 q26 q27 fu y12_597 y13_597 me_597 = some q28) (H : Heap) (locs : List Loc) (ls : Array Slot), va_P (dC, dI) vwCl ([(aq, .inl (cI, 5, .inl q_40)), (ab, .inl (cI, 48, .inl bl_40)), (am, .inl (cL, 64, .inr (.inl me_597)))] ++ mod cI cC cT cL ad fr T_40 R_40 P Y_40 S B_40) H → va_D A ([(aq, .inl (cI, 5, .inl q_40)), (ab, .inl (cI, 48, .inl bl_40)), (am, .inl (cL, 64, .inr (.inl me_597)))] ++ mod cI cC cT cL ad fr T_40 R_40 P Y_40 S B_40) → va_S A s.heap H locs → lv_has ls 14 [(0, .ref b), (1, .ref (ad 0)), (2, .ref aq), (3, .ref ab), (4, .ref am), (5, .int y5_40), (7, .int q4), (9, .int q22), (10, .int q26), (11, .int q27), (12, .int y12_597), (13, .int y13_597)] → W p l e room_1 s m #[Value.ref b] below meth c H locs 99 67507 Q (F0 m 597 ls []) := by
                          intro fu
                          induction fu with
                          | zero => intro y12_597 y13_597 me_597 hd; exact no_some hd
                          | succ fu ih =>
                            intro y12_597 y13_597 me_597 hd H locs ls hP hD hS hl
                            rw [den_L_law_L597] at hd
                            refine lv_iload hx hb dL_law_597 (lv_at hl 11 rfl) ?_
                            refine lv_iload hx hb dL_law_599 (lv_at hl 8 rfl) ?_
                            refine lv_icmp_gt (tgt := 657) hx hb dL_law_601 (by decide) (fun c31 => ?_) (fun c31 => ?_)
                            · replace hd := ite_t c31 hd
                              cases hd
                              exact Kq28 _ _ _ hP hD hS (lv_sub hl [0, 1, 2, 3, 4, 5, 6, 7, 8, 9, 10] rfl)
                            · replace hd := ite_f c31 hd
                              refine lv_iload hx hb dL_law_604 (lv_at hl 11 rfl) ?_
                              refine lv_aload hx hb dL_law_606 (lv_at hl 4 rfl) ?_
                              obtain ⟨q32, hq32, hd⟩ := bnd_some hd
                              have hPc : va_P (dC, dI) vwCl [(am, .inl (cL, 64, .inr (.inl me_597)))] _ := hP.sub [2] rfl
                              have hDc := hD.sub (ws' := [(am, .inl (cL, 64, .inr (.inl me_597)))]) [2] (by decide) rfl
                              have hFc := va_free (wc := [(am, .inl (cL, 64, .inr (.inl me_597)))]) hD hS hA [2] rfl
                              refine va_calli (va_runS (As := [.int y13_597, .ref am]) (rest := []) ⟨hx, hb, hml, hown, hts⟩ (c_L_mem l dC dI cI cC cT cL am 64 H.size me_597 y13_597 q32 hq32) (va_cwS 2 hts gL_law_L_mem rfl rfl rfl hp_L_mem ⟨Nat.le_of_ble_eq_true rfl, Nat.le_of_ble_eq_true rfl⟩) ⟨preB_fb, fun U hU hW => preB_mk hU hW hPc hK hDc hN⟩ rfl rfl hl.1 rfl (lv_room (Nat.le_of_ble_eq_true rfl)) dL_law_608 ⟨Nat.le_of_ble_eq_true rfl, Nat.le_of_ble_eq_true rfl⟩) hS (fun q _ h => hFc q h) hFc (fun r_ u_ t H locs ht hvm hw hB hz1 hk1 hS => ?_)
                              have hw : r_ = q32 := hw
                              have hw := hw.symm
                              subst hw
                              obtain ⟨hP, hD⟩ := x_joinL (r' := [(aq, .inl (cI, 5, .inl q_40)), (ab, .inl (cI, 48, .inl bl_40)), (am, .inl (cL, 64, .inr (.inl me_597)))]) hP hD [2] [0, 1] rfl rfl (by decide) (by decide) hk1 hFc ht hB [0, 1, 2] (by decide) rfl rfl
                              clear hPc hDc hFc hk1 hB ht hz1 hvm
                              refine lv_sipush (v := 128) hx hb dL_law_611 (by decide) ?_
                              refine lv_irem hx hb dL_law_614 (by decide) ?_
                              refine lv_iload hx hb dL_law_615 (lv_at hl 9 rfl) ?_
                              refine lv_icmp_gt (tgt := 623) hx hb dL_law_617 (by decide) (fun c33 => ?_) (fun c33 => ?_)
                              · replace hd := ite_t c33 hd
                                refine lv_iinc (v := (y12_597 + (1 : Int32))) (lv' := [(12, .int (y12_597 + (1 : Int32))), (0, .ref b), (1, .ref (ad 0)), (2, .ref aq), (3, .ref ab), (4, .ref am), (5, .int y5_40), (7, .int q4), (9, .int q22), (10, .int q26), (11, .int q27), (13, .int y13_597)]) hx hb dL_law_623 hl (k := 10) rfl (by first | rfl | decide) (by decide) rfl (fun ls hl => ?_)
                                refine lv_iload hx hb dL_law_626 (lv_at hl 11 rfl) ?_
                                refine lv_iload hx hb dL_law_628 (lv_at hl 11 rfl) ?_
                                refine lv_aload hx hb dL_law_630 (lv_at hl 5 rfl) ?_
                                obtain ⟨q34, hq34, hd⟩ := bnd_some hd
                                have hPc : va_P (dC, dI) vwCl [(am, .inl (cL, 64, .inr (.inl me_597)))] _ := hP.sub [2] rfl
                                have hDc := hD.sub (ws' := [(am, .inl (cL, 64, .inr (.inl me_597)))]) [2] (by decide) rfl
                                have hFc := va_free (wc := [(am, .inl (cL, 64, .inr (.inl me_597)))]) hD hS hA [2] rfl
                                refine va_calli (va_runS (As := [.int y13_597, .ref am]) (rest := [.int y13_597]) ⟨hx, hb, hml, hown, hts⟩ (c_L_mem l dC dI cI cC cT cL am 64 H.size me_597 y13_597 q34 hq34) (va_cwS 2 hts gL_law_L_mem rfl rfl rfl hp_L_mem ⟨Nat.le_of_ble_eq_true rfl, Nat.le_of_ble_eq_true rfl⟩) ⟨preB_fb, fun U hU hW => preB_mk hU hW hPc hK hDc hN⟩ rfl rfl hl.1 rfl (lv_room (Nat.le_of_ble_eq_true rfl)) dL_law_632 ⟨Nat.le_of_ble_eq_true rfl, Nat.le_of_ble_eq_true rfl⟩) hS (fun q _ h => hFc q h) hFc (fun r_ u_ t H locs ht hvm hw hB hz1 hk1 hS => ?_)
                                have hw : r_ = q34 := hw
                                have hw := hw.symm
                                subst hw
                                obtain ⟨hP, hD⟩ := x_joinL (r' := [(aq, .inl (cI, 5, .inl q_40)), (ab, .inl (cI, 48, .inl bl_40)), (am, .inl (cL, 64, .inr (.inl me_597)))]) hP hD [2] [0, 1] rfl rfl (by decide) (by decide) hk1 hFc ht hB [0, 1, 2] (by decide) rfl rfl
                                clear hPc hDc hFc hk1 hB ht hz1 hvm
                                refine lv_sipush (v := 128) hx hb dL_law_635 (by decide) ?_
                                refine lv_idiv hx hb dL_law_638 (by decide) ?_
                                refine lv_sipush (v := 128) hx hb dL_law_639 (by decide) ?_
                                refine lv_imul hx hb dL_law_642 ?_
                                refine lv_iload hx hb dL_law_643 (lv_at hl 10 rfl) ?_
                                refine lv_iadd hx hb dL_law_645 ?_
                                refine lv_aload hx hb dL_law_646 (lv_at hl 5 rfl) ?_
                                obtain ⟨q35, hq35, hd⟩ := bnd_some hd
                                have hPc : va_P (dC, dI) vwCl [(am, .inl (cL, 64, .inr (.inl me_597)))] _ := hP.sub [2] rfl
                                have hDc := hD.sub (ws' := [(am, .inl (cL, 64, .inr (.inl me_597)))]) [2] (by decide) rfl
                                have hFc := va_free (wc := [(am, .inl (cL, 64, .inr (.inl me_597)))]) hD hS hA [2] rfl
                                refine va_callv (va_runS (As := [.int y13_597, .int (((q34 / (128 : Int32)) * (128 : Int32)) + q27), .ref am]) (rest := []) ⟨hx, hb, hml, hown, hts⟩ (c_L_lay l dC dI cI cC cT cL am 64 H.size me_597 y13_597 (((q34 / (128 : Int32)) * (128 : Int32)) + q27) q35 hq35) (va_cwS 3 hts gL_law_L_lay rfl rfl rfl hp_L_lay ⟨Nat.le_of_ble_eq_true rfl, Nat.le_of_ble_eq_true rfl⟩) ⟨preB_fb, fun U hU hW => preB_mk hU hW hPc hK hDc hN⟩ rfl rfl hl.1 rfl (lv_room (Nat.le_of_ble_eq_true rfl)) dL_law_648 ⟨Nat.le_of_ble_eq_true rfl, Nat.le_of_ble_eq_true rfl⟩) hS (fun q _ h => hFc q h) hFc (fun u_ t H locs ht hvm hw hB hz1 hk1 hS => ?_)
                                obtain ⟨hP, hD⟩ := x_joinL (r' := [(aq, .inl (cI, 5, .inl q_40)), (ab, .inl (cI, 48, .inl bl_40)), (am, .inl (cL, 64, .inr (.inl q35)))]) hP hD [2] [0, 1] rfl rfl (by decide) (by decide) hk1 hFc ht hB [0, 1, 2] (by decide) rfl rfl
                                clear hPc hDc hFc hk1 hB ht hz1 hvm
                                refine lv_iinc (v := (y13_597 + (1 : Int32))) (lv' := [(13, .int (y13_597 + (1 : Int32))), (12, .int (y12_597 + (1 : Int32))), (0, .ref b), (1, .ref (ad 0)), (2, .ref aq), (3, .ref ab), (4, .ref am), (5, .int y5_40), (7, .int q4), (9, .int q22), (10, .int q26), (11, .int q27)]) hx hb dL_law_651 hl (k := 11) rfl (by first | rfl | decide) (by decide) rfl (fun ls hl => ?_)
                                refine lv_goto (tgt := 597) hx hb dL_law_654 (by decide) ?_
                                exact ih (y12_597 + (1 : Int32)) (y13_597 + (1 : Int32)) q35 hd _ _ _ hP hD hS (lv_sub hl [2, 3, 4, 5, 6, 7, 8, 9, 10, 11, 1, 0] rfl)
                              · replace hd := ite_f c33 hd
                                refine lv_goto (tgt := 651) hx hb dL_law_620 (by decide) ?_
                                refine lv_iinc (v := (y13_597 + (1 : Int32))) (lv' := [(13, .int (y13_597 + (1 : Int32))), (0, .ref b), (1, .ref (ad 0)), (2, .ref aq), (3, .ref ab), (4, .ref am), (5, .int y5_40), (7, .int q4), (9, .int q22), (10, .int q26), (11, .int q27), (12, .int y12_597)]) hx hb dL_law_651 hl (k := 11) rfl (by first | rfl | decide) (by decide) rfl (fun ls hl => ?_)
                                refine lv_goto (tgt := 597) hx hb dL_law_654 (by decide) ?_
                                exact ih y12_597 (y13_597 + (1 : Int32)) me_597 hd _ _ _ hP hD hS (lv_sub hl [1, 2, 3, 4, 5, 6, 7, 8, 9, 10, 11, 0] rfl)
                        exact KL36 FU (0 : Int32) q22 me_40 hq28 _ _ _ hP hD hS (lv_sub hl [4, 5, 6, 7, 8, 9, 10, 11, 3, 2, 1, 0] rfl)
                      replace hd := hq26
                      clear hq26
                      refine lv_icmp_ge (tgt := 571) hx hb dL_law_563 (by decide) (fun c37 => ?_) (fun c37 => ?_)
                      · replace hd := ite_t c37 hd
                        refine lv_aload_n hx hb dL_law_571 rfl (lv_at hl 3 rfl) ?_
                        refine lv_iconst (v := 4) hx hb dL_law_572 (by decide) ?_
                        refine x_iald (k := 4) hx hb hK hP 0 0 rfl rfl (inb_in (by decide)) rfl dL_law_573 ?_
                        refine lv_iconst (v := 1) hx hb dL_law_574 (by decide) ?_
                        refine lv_isub hx hb dL_law_575 ?_
                        cases hd
                        exact Kq26 _ _ _ hP hD hS (lv_sub hl [1, 2, 3, 4, 5, 6, 7, 8] rfl)
                      · replace hd := ite_f c37 hd
                        refine lv_iload hx hb dL_law_566 (lv_at hl 0 rfl) ?_
                        refine lv_goto (tgt := 576) hx hb dL_law_568 (by decide) ?_
                        cases hd
                        exact Kq26 _ _ _ hP hD hS (lv_sub hl [1, 2, 3, 4, 5, 6, 7, 8] rfl)
                    replace hd := hq24
                    clear hq24
                    refine lv_if_ne (tgt := 550) hx hb dL_law_543 (by decide) (fun c38 => ?_) (fun c38 => ?_)
                    · replace hd := ite_f c38 hd
                      refine lv_bipush (v := 40) hx hb dL_law_550 (by decide) ?_
                      cases hd
                      exact Kq24 _ _ _ hP hD hS (lv_sub hl [1, 2, 3, 4, 5, 6, 8, 0] rfl)
                    · replace hd := ite_t c38 hd
                      refine lv_iconst (v := 4) hx hb dL_law_546 (by decide) ?_
                      refine lv_goto (tgt := 552) hx hb dL_law_547 (by decide) ?_
                      cases hd
                      exact Kq24 _ _ _ hP hD hS (lv_sub hl [1, 2, 3, 4, 5, 6, 8, 0] rfl)
                · replace hd := ite_f c12 hd
                  refine lv_iconst (v := 0) hx hb dL_law_438 (by decide) ?_
                  refine lv_istore (lv' := [(9, .int (0 : Int32)), (0, .ref b), (1, .ref (ad 0)), (2, .ref aq), (3, .ref ab), (4, .ref am), (5, .int y5_40), (6, .int q3), (7, .int q4), (8, .int q5)]) hx hb dL_law_439 hl (by decide) rfl (fun ls hl => ?_)
                  obtain ⟨q39, hq39, hd⟩ := bnd_some hd
                  have Kq39 : ∀ (H : Heap) (locs : List Loc) (ls : Array Slot), va_P (dC, dI) vwCl ([(aq, .inl (cI, 5, .inl q_40)), (ab, .inl (cI, 48, .inl bl_40)), (am, .inl (cL, 64, .inr (.inl q39.1)))] ++ mod cI cC cT cL ad fr q39.2.1 R_40 P q39.2.2 S B_40) H → va_D A ([(aq, .inl (cI, 5, .inl q_40)), (ab, .inl (cI, 48, .inl bl_40)), (am, .inl (cL, 64, .inr (.inl q39.1)))] ++ mod cI cC cT cL ad fr q39.2.1 R_40 P q39.2.2 S B_40) → va_S A s.heap H locs → lv_has ls 14 [(0, .ref b), (1, .ref (ad 0)), (2, .ref aq), (3, .ref ab), (4, .ref am), (5, .int y5_40), (7, .int q4)] → W p l e room_1 s m #[Value.ref b] below meth c H locs 99 67507 Q (F0 m 508 ls []) := by
                    intro H locs ls hP hD hS hl
                    refine lv_goto (tgt := 730) hx hb dL_law_508 (by decide) ?_
                    cases hd
                    exact Kq6 _ _ _ hP hD hS (lv_sub hl [0, 1, 2, 3, 4, 5, 6] rfl)
                  clear hd
                  have KL47 : ∀ (fu : Nat) (y9_441 : Int32) (me_441 : (Nat → Int64)) (T_441 : TV) (Y_441 : HV) (hd : den_L_law_L441 q_40 q4 fu y9_441 me_441 T_441 Y_441 = some q39) (H : Heap) (locs : List Loc) (ls : Array Slot), va_P (dC, dI) vwCl ([(aq, .inl (cI, 5, .inl q_40)), (ab, .inl (cI, 48, .inl bl_40)), (am, .inl (cL, 64, .inr (.inl me_441)))] ++ mod cI cC cT cL ad fr T_441 R_40 P Y_441 S B_40) H → va_D A ([(aq, .inl (cI, 5, .inl q_40)), (ab, .inl (cI, 48, .inl bl_40)), (am, .inl (cL, 64, .inr (.inl me_441)))] ++ mod cI cC cT cL ad fr T_441 R_40 P Y_441 S B_40) → va_S A s.heap H locs → lv_has ls 14 [(0, .ref b), (1, .ref (ad 0)), (2, .ref aq), (3, .ref ab), (4, .ref am), (5, .int y5_40), (7, .int q4), (9, .int y9_441)] → W p l e room_1 s m #[Value.ref b] below meth c H locs 99 67507 Q (F0 m 441 ls []) := by
                    intro fu
                    induction fu with
                    | zero => intro y9_441 me_441 T_441 Y_441 hd; exact no_some hd
                    | succ fu ih =>
                      intro y9_441 me_441 T_441 Y_441 hd H locs ls hP hD hS hl
                      rw [den_L_law_L441] at hd
                      refine lv_iload hx hb dL_law_441 (lv_at hl 7 rfl) ?_
                      refine lv_iconst (v := 2) hx hb dL_law_443 (by decide) ?_
                      refine lv_icmp_ge (tgt := 508) hx hb dL_law_444 (by decide) (fun c40 => ?_) (fun c40 => ?_)
                      · replace hd := ite_t c40 hd
                        cases hd
                        exact Kq39 _ _ _ hP hD hS (lv_sub hl [0, 1, 2, 3, 4, 5, 6] rfl)
                      · replace hd := ite_f c40 hd
                        refine lv_iload hx hb dL_law_447 (lv_at hl 6 rfl) ?_
                        refine lv_iconst (v := 5) hx hb dL_law_449 (by decide) ?_
                        refine lv_iload hx hb dL_law_450 (lv_at hl 7 rfl) ?_
                        refine lv_imul hx hb dL_law_452 ?_
                        refine lv_ishr hx hb dL_law_453 ?_
                        refine lv_aload_n hx hb dL_law_454 rfl (lv_at hl 2 rfl) ?_
                        refine lv_iconst (v := 4) hx hb dL_law_455 (by decide) ?_
                        refine x_iald (k := 4) hx hb hK hP 0 0 rfl rfl (inb_in (by decide)) rfl dL_law_456 ?_
                        obtain ⟨q41, hq41, hd⟩ := bnd_some hd
                        have hPc : va_P (dC, dI) vwCl [] _ := hP.sub [] rfl
                        have hDc := hD.sub (ws' := []) [] (by decide) rfl
                        have hFc := va_free (wc := []) hD hS hA [] rfl
                        refine va_calli (va_runS (As := [.int (q4 >>> (((5 : Int32) * y9_441) &&& 31)), .int (q_40 4)]) (rest := []) ⟨hx, hb, hml, hown, hts⟩ (c_L_low l dC dI cI cC cT cL H.size (q4 >>> (((5 : Int32) * y9_441) &&& 31)) (q_40 4) q41 hq41) (va_cwS 2 hts gL_law_L_low rfl rfl rfl hp_L_low ⟨Nat.le_of_ble_eq_true rfl, Nat.le_of_ble_eq_true rfl⟩) ⟨preB_fb, fun U hU hW => preB_mk hU hW hPc hK hDc hN⟩ rfl rfl hl.1 rfl (lv_room (Nat.le_of_ble_eq_true rfl)) dL_law_457 ⟨Nat.le_of_ble_eq_true rfl, Nat.le_of_ble_eq_true rfl⟩) hS (fun q _ h => hFc q h) hFc (fun r_ u_ t H locs ht hvm hw hB hz1 hk1 hS => ?_)
                        have hw : r_ = q41 := hw
                        have hw := hw.symm
                        subst hw
                        obtain ⟨hP, hD⟩ := x_joinL (r' := [(aq, .inl (cI, 5, .inl q_40)), (ab, .inl (cI, 48, .inl bl_40)), (am, .inl (cL, 64, .inr (.inl me_441)))]) hP hD [] [0, 1, 2] rfl rfl (by decide) (by decide) hk1 hFc ht hB [0, 1, 2] (by decide) rfl rfl
                        clear hPc hDc hFc hk1 hB ht hz1 hvm
                        refine lv_istore (lv' := [(10, .int q41), (0, .ref b), (1, .ref (ad 0)), (2, .ref aq), (3, .ref ab), (4, .ref am), (5, .int y5_40), (7, .int q4), (9, .int y9_441)]) hx hb dL_law_460 hl (by decide) rfl (fun ls hl => ?_)
                        refine lv_iload hx hb dL_law_462 (lv_at hl 0 rfl) ?_
                        refine lv_iload hx hb dL_law_464 (lv_at hl 0 rfl) ?_
                        refine lv_aload hx hb dL_law_466 (lv_at hl 5 rfl) ?_
                        obtain ⟨q42, hq42, hd⟩ := bnd_some hd
                        have hPc : va_P (dC, dI) vwCl [(am, .inl (cL, 64, .inr (.inl me_441)))] _ := hP.sub [2] rfl
                        have hDc := hD.sub (ws' := [(am, .inl (cL, 64, .inr (.inl me_441)))]) [2] (by decide) rfl
                        have hFc := va_free (wc := [(am, .inl (cL, 64, .inr (.inl me_441)))]) hD hS hA [2] rfl
                        refine va_calli (va_runS (As := [.int q41, .ref am]) (rest := [.int q41]) ⟨hx, hb, hml, hown, hts⟩ (c_L_mem l dC dI cI cC cT cL am 64 H.size me_441 q41 q42 hq42) (va_cwS 2 hts gL_law_L_mem rfl rfl rfl hp_L_mem ⟨Nat.le_of_ble_eq_true rfl, Nat.le_of_ble_eq_true rfl⟩) ⟨preB_fb, fun U hU hW => preB_mk hU hW hPc hK hDc hN⟩ rfl rfl hl.1 rfl (lv_room (Nat.le_of_ble_eq_true rfl)) dL_law_468 ⟨Nat.le_of_ble_eq_true rfl, Nat.le_of_ble_eq_true rfl⟩) hS (fun q _ h => hFc q h) hFc (fun r_ u_ t H locs ht hvm hw hB hz1 hk1 hS => ?_)
                        have hw : r_ = q42 := hw
                        have hw := hw.symm
                        subst hw
                        obtain ⟨hP, hD⟩ := x_joinL (r' := [(aq, .inl (cI, 5, .inl q_40)), (ab, .inl (cI, 48, .inl bl_40)), (am, .inl (cL, 64, .inr (.inl me_441)))]) hP hD [2] [0, 1] rfl rfl (by decide) (by decide) hk1 hFc ht hB [0, 1, 2] (by decide) rfl rfl
                        clear hPc hDc hFc hk1 hB ht hz1 hvm
                        refine lv_sipush (v := 128) hx hb dL_law_471 (by decide) ?_
                        refine lv_ixor hx hb dL_law_474 ?_
                        refine lv_aload hx hb dL_law_475 (lv_at hl 5 rfl) ?_
                        obtain ⟨q43, hq43, hd⟩ := bnd_some hd
                        have hPc : va_P (dC, dI) vwCl [(am, .inl (cL, 64, .inr (.inl me_441)))] _ := hP.sub [2] rfl
                        have hDc := hD.sub (ws' := [(am, .inl (cL, 64, .inr (.inl me_441)))]) [2] (by decide) rfl
                        have hFc := va_free (wc := [(am, .inl (cL, 64, .inr (.inl me_441)))]) hD hS hA [2] rfl
                        refine va_callv (va_runS (As := [.int q41, .int (q42 ^^^ (128 : Int32)), .ref am]) (rest := []) ⟨hx, hb, hml, hown, hts⟩ (c_L_lay l dC dI cI cC cT cL am 64 H.size me_441 q41 (q42 ^^^ (128 : Int32)) q43 hq43) (va_cwS 3 hts gL_law_L_lay rfl rfl rfl hp_L_lay ⟨Nat.le_of_ble_eq_true rfl, Nat.le_of_ble_eq_true rfl⟩) ⟨preB_fb, fun U hU hW => preB_mk hU hW hPc hK hDc hN⟩ rfl rfl hl.1 rfl (lv_room (Nat.le_of_ble_eq_true rfl)) dL_law_477 ⟨Nat.le_of_ble_eq_true rfl, Nat.le_of_ble_eq_true rfl⟩) hS (fun q _ h => hFc q h) hFc (fun u_ t H locs ht hvm hw hB hz1 hk1 hS => ?_)
                        obtain ⟨hP, hD⟩ := x_joinL (r' := [(aq, .inl (cI, 5, .inl q_40)), (ab, .inl (cI, 48, .inl bl_40)), (am, .inl (cL, 64, .inr (.inl q43)))]) hP hD [2] [0, 1] rfl rfl (by decide) (by decide) hk1 hFc ht hB [0, 1, 2] (by decide) rfl rfl
                        clear hPc hDc hFc hk1 hB ht hz1 hvm
                        refine lv_aload_n hx hb dL_law_480 rfl (lv_at hl 2 rfl) ?_
                        refine lv_iload hx hb dL_law_481 (lv_at hl 0 rfl) ?_
                        obtain ⟨q44, hq44, hd⟩ := bnd_some hd
                        have hPc := P_r hP
                        have hDc := D_r hD
                        have hFc := F_r hD hS hA
                        refine va_calli (va_runV (As := [.int q41]) (rest := []) ⟨hx, hb, hml, hown, hts⟩ (w_spoil l dC dI cI cC cT cL ad fr hfr0 hfr1 hfr2 hfr3 hfr4 hfr5 H.size T_441 R_40 P Y_441 S B_40 q41 q44 hq44) (cwV 1 hts gL_law_X6_spoil rfl rfl rfl hv_X6_spoil ⟨Nat.le_of_ble_eq_true rfl, Nat.le_of_ble_eq_true rfl⟩) ⟨preB_fb, va_recv hK hPc (ci := 6) (q0 := 0) rfl rfl, fun U hU hW => preB_mk hU hW hPc hK hDc hN⟩ rfl rfl hl.1 rfl (lv_room (Nat.le_of_ble_eq_true rfl)) dL_law_483 ⟨Nat.le_of_ble_eq_true rfl, Nat.le_of_ble_eq_true rfl⟩) hS (fun q _ h => hFc q h) hFc (fun r_ u_ t H locs ht hvm hw hB hz1 hk1 hS => ?_)
                        have hw : r_ = q44.1 := hw
                        have hw := hw.symm
                        subst hw
                        obtain ⟨hP, hD⟩ := x_joinR hP hD hk1 hFc ht hB
                        clear hPc hDc hFc hk1 hB ht hz1 hvm
                        refine lv_iload hx hb dL_law_486 (lv_at hl 0 rfl) ?_
                        refine lv_aload hx hb dL_law_488 (lv_at hl 5 rfl) ?_
                        obtain ⟨q45, hq45, hd⟩ := bnd_some hd
                        have hPc : va_P (dC, dI) vwCl [(am, .inl (cL, 64, .inr (.inl q43)))] _ := hP.sub [2] rfl
                        have hDc := hD.sub (ws' := [(am, .inl (cL, 64, .inr (.inl q43)))]) [2] (by decide) rfl
                        have hFc := va_free (wc := [(am, .inl (cL, 64, .inr (.inl q43)))]) hD hS hA [2] rfl
                        refine va_calli (va_runS (As := [.int q41, .ref am]) (rest := [.int q44.1]) ⟨hx, hb, hml, hown, hts⟩ (c_L_mem l dC dI cI cC cT cL am 64 H.size q43 q41 q45 hq45) (va_cwS 2 hts gL_law_L_mem rfl rfl rfl hp_L_mem ⟨Nat.le_of_ble_eq_true rfl, Nat.le_of_ble_eq_true rfl⟩) ⟨preB_fb, fun U hU hW => preB_mk hU hW hPc hK hDc hN⟩ rfl rfl hl.1 rfl (lv_room (Nat.le_of_ble_eq_true rfl)) dL_law_490 ⟨Nat.le_of_ble_eq_true rfl, Nat.le_of_ble_eq_true rfl⟩) hS (fun q _ h => hFc q h) hFc (fun r_ u_ t H locs ht hvm hw hB hz1 hk1 hS => ?_)
                        have hw : r_ = q45 := hw
                        have hw := hw.symm
                        subst hw
                        obtain ⟨hP, hD⟩ := x_joinL (r' := [(aq, .inl (cI, 5, .inl q_40)), (ab, .inl (cI, 48, .inl bl_40)), (am, .inl (cL, 64, .inr (.inl q43)))]) hP hD [2] [0, 1] rfl rfl (by decide) (by decide) hk1 hFc ht hB [0, 1, 2] (by decide) rfl rfl
                        clear hPc hDc hFc hk1 hB ht hz1 hvm
                        refine lv_sipush (v := 128) hx hb dL_law_493 (by decide) ?_
                        refine lv_idiv hx hb dL_law_496 (by decide) ?_
                        refine lv_icmp_eq (tgt := 502) hx hb dL_law_497 (by decide) (fun c46 => ?_) (fun c46 => ?_)
                        · replace hd := ite_t c46 hd
                          refine lv_iinc (v := (y9_441 + (1 : Int32))) (lv' := [(9, .int (y9_441 + (1 : Int32))), (10, .int q41), (0, .ref b), (1, .ref (ad 0)), (2, .ref aq), (3, .ref ab), (4, .ref am), (5, .int y5_40), (7, .int q4)]) hx hb dL_law_502 hl (k := 8) rfl (by first | rfl | decide) (by decide) rfl (fun ls hl => ?_)
                          refine lv_goto (tgt := 441) hx hb dL_law_505 (by decide) ?_
                          exact ih (y9_441 + (1 : Int32)) q43 q44.2.1 q44.2.2 hd _ _ _ hP hD hS (lv_sub hl [2, 3, 4, 5, 6, 7, 8, 0] rfl)
                        · replace hd := ite_f c46 hd
                          refine lv_iconst (v := 0) hx hb dL_law_500 (by decide) ?_
                          exact no_some hd
                  exact KL47 FU (0 : Int32) me_40 T_40 Y_40 hq39 _ _ _ hP hD hS (lv_sub hl [1, 2, 3, 4, 5, 6, 8, 0] rfl)
              · replace hd := ite_t c11 hd
                refine lv_aload_n hx hb dL_law_420 rfl (lv_at hl 1 rfl) ?_
                refine lv_iconst (v := 0) hx hb dL_law_421 (by decide) ?_
                obtain ⟨q48, hq48, hd⟩ := bnd_some hd
                have hPc := P_r hP
                have hDc := D_r hD
                have hFc := F_r hD hS hA
                refine va_calli (va_runV (As := [.int (0 : Int32)]) (rest := []) ⟨hx, hb, hml, hown, hts⟩ (w_spoil l dC dI cI cC cT cL ad fr hfr0 hfr1 hfr2 hfr3 hfr4 hfr5 H.size T_40 R_40 P Y_40 S B_40 (0 : Int32) q48 hq48) (cwV 1 hts gL_law_X6_spoil rfl rfl rfl hv_X6_spoil ⟨Nat.le_of_ble_eq_true rfl, Nat.le_of_ble_eq_true rfl⟩) ⟨preB_fb, va_recv hK hPc (ci := 6) (q0 := 0) rfl rfl, fun U hU hW => preB_mk hU hW hPc hK hDc hN⟩ rfl rfl hl.1 rfl (lv_room (Nat.le_of_ble_eq_true rfl)) dL_law_422 ⟨Nat.le_of_ble_eq_true rfl, Nat.le_of_ble_eq_true rfl⟩) hS (fun q _ h => hFc q h) hFc (fun r_ u_ t H locs ht hvm hw hB hz1 hk1 hS => ?_)
                have hw : r_ = q48.1 := hw
                have hw := hw.symm
                subst hw
                obtain ⟨hP, hD⟩ := x_joinR hP hD hk1 hFc ht hB
                clear hPc hDc hFc hk1 hB ht hz1 hvm
                refine lv_iconst (v := -1) hx hb dL_law_425 (by decide) ?_
                refine lv_icmp_eq (tgt := 730) hx hb dL_law_426 (by decide) (fun c49 => ?_) (fun c49 => ?_)
                · replace hd := ite_t c49 hd
                  cases hd
                  exact Kq6 _ _ _ hP hD hS (lv_sub hl [0, 1, 2, 3, 4, 5, 7] rfl)
                · replace hd := ite_f c49 hd
                  refine lv_iconst (v := 0) hx hb dL_law_429 (by decide) ?_
                  exact no_some hd
            refine lv_icmp_ne (tgt := 414) hx hb dL_law_350 (by decide) (fun c50 => ?_) (fun c50 => ?_)
            · replace hd := ite_f c50 hd
              exact KJ10 () hd _ _ _ hP hD hS (lv_sub hl [1, 2, 3, 4, 5, 6, 7, 8, 0] rfl)
            · replace hd := ite_t c50 hd
              refine lv_iload hx hb dL_law_353 (lv_at hl 8 rfl) ?_
              refine lv_iconst (v := 3) hx hb dL_law_355 (by decide) ?_
              obtain ⟨q51, hq51, hd⟩ := bnd_some hd
              have hPc : va_P (dC, dI) vwCl [] _ := hP.sub [] rfl
              have hDc := hD.sub (ws' := []) [] (by decide) rfl
              have hFc := va_free (wc := []) hD hS hA [] rfl
              refine va_calli (va_runS (As := [.int q4, .int (3 : Int32)]) (rest := []) ⟨hx, hb, hml, hown, hts⟩ (c_L_low l dC dI cI cC cT cL H.size q4 (3 : Int32) q51 hq51) (va_cwS 2 hts gL_law_L_low rfl rfl rfl hp_L_low ⟨Nat.le_of_ble_eq_true rfl, Nat.le_of_ble_eq_true rfl⟩) ⟨preB_fb, fun U hU hW => preB_mk hU hW hPc hK hDc hN⟩ rfl rfl hl.1 rfl (lv_room (Nat.le_of_ble_eq_true rfl)) dL_law_356 ⟨Nat.le_of_ble_eq_true rfl, Nat.le_of_ble_eq_true rfl⟩) hS (fun q _ h => hFc q h) hFc (fun r_ u_ t H locs ht hvm hw hB hz1 hk1 hS => ?_)
              have hw : r_ = q51 := hw
              have hw := hw.symm
              subst hw
              obtain ⟨hP, hD⟩ := x_joinL (r' := [(aq, .inl (cI, 5, .inl q_40)), (ab, .inl (cI, 48, .inl bl_40)), (am, .inl (cL, 64, .inr (.inl me_40)))]) hP hD [] [0, 1, 2] rfl rfl (by decide) (by decide) hk1 hFc ht hB [0, 1, 2] (by decide) rfl rfl
              clear hPc hDc hFc hk1 hB ht hz1 hvm
              refine lv_if_ne (tgt := 414) hx hb dL_law_359 (by decide) (fun c52 => ?_) (fun c52 => ?_)
              · replace hd := ite_f c52 hd
                exact KJ10 () hd _ _ _ hP hD hS (lv_sub hl [1, 2, 3, 4, 5, 6, 7, 8, 0] rfl)
              · replace hd := ite_t c52 hd
                refine lv_aload_n hx hb dL_law_362 rfl (lv_at hl 2 rfl) ?_
                obtain ⟨q53, hq53, hd⟩ := bnd_some hd
                have hPc := P_r hP
                have hDc := D_r hD
                have hFc := F_r hD hS hA
                refine va_calli (va_runV (As := []) (rest := []) ⟨hx, hb, hml, hown, hts⟩ (w_wipeLast l dC dI cI cC cT cL ad fr hfr0 hfr1 hfr2 hfr3 hfr4 hfr5 H.size T_40 R_40 P Y_40 S B_40 q53 hq53) (cwV 0 hts gL_law_X6_wipeLast rfl rfl rfl hv_X6_wipeLast ⟨Nat.le_of_ble_eq_true rfl, Nat.le_of_ble_eq_true rfl⟩) ⟨preB_fb, va_recv hK hPc (ci := 6) (q0 := 0) rfl rfl, fun U hU hW => preB_mk hU hW hPc hK hDc hN⟩ rfl rfl hl.1 rfl (lv_room (Nat.le_of_ble_eq_true rfl)) dL_law_363 ⟨Nat.le_of_ble_eq_true rfl, Nat.le_of_ble_eq_true rfl⟩) hS (fun q _ h => hFc q h) hFc (fun r_ u_ t H locs ht hvm hw hB hz1 hk1 hS => ?_)
                have hw : r_ = q53.1 := hw
                have hw := hw.symm
                subst hw
                obtain ⟨hP, hD⟩ := x_joinR hP hD hk1 hFc ht hB
                clear hPc hDc hFc hk1 hB ht hz1 hvm
                refine lv_aload_n hx hb dL_law_366 rfl (lv_at hl 3 rfl) ?_
                refine lv_iconst (v := 3) hx hb dL_law_367 (by decide) ?_
                refine x_iald (k := 3) hx hb hK hP 0 0 rfl rfl (inb_in (by decide)) rfl dL_law_368 ?_
                obtain ⟨q54, hq54, hd⟩ := bnd_some hd
                have Kq54 : ∀ (H : Heap) (locs : List Loc) (ls : Array Slot), va_P (dC, dI) vwCl ([(aq, .inl (cI, 5, .inl q_40)), (ab, .inl (cI, 48, .inl bl_40)), (am, .inl (cL, 64, .inr (.inl me_40)))] ++ mod cI cC cT cL ad fr q53.2.1 R_40 P q53.2.2 S B_40) H → va_D A ([(aq, .inl (cI, 5, .inl q_40)), (ab, .inl (cI, 48, .inl bl_40)), (am, .inl (cL, 64, .inr (.inl me_40)))] ++ mod cI cC cT cL ad fr q53.2.1 R_40 P q53.2.2 S B_40) → va_S A s.heap H locs → lv_has ls 14 [(0, .ref b), (1, .ref (ad 0)), (2, .ref aq), (3, .ref ab), (4, .ref am), (5, .int y5_40), (7, .int q4)] → W p l e room_1 s m #[Value.ref b] below meth c H locs 99 67507 Q (F0 m 382 ls [.int q54, .int q53.1]) := by
                  intro H locs ls hP hD hS hl
                  refine lv_icmp_eq (tgt := 387) hx hb dL_law_382 (by decide) (fun c55 => ?_) (fun c55 => ?_)
                  · replace hd := ite_t c55 hd
                    refine lv_aload_n hx hb dL_law_387 rfl (lv_at hl 2 rfl) ?_
                    refine lv_iconst (v := 3) hx hb dL_law_388 (by decide) ?_
                    refine x_iald (k := 3) hx hb hK hP 0 0 rfl rfl (inb_in (by decide)) rfl dL_law_389 ?_
                    refine lv_if_le (tgt := 730) hx hb dL_law_390 (by decide) (fun c56 => ?_) (fun c56 => ?_)
                    · replace hd := ite_t c56 hd
                      cases hd
                      exact Kq6 _ _ _ hP hD hS (lv_sub hl [0, 1, 2, 3, 4, 5, 6] rfl)
                    · replace hd := ite_f c56 hd
                      refine lv_aload_n hx hb dL_law_393 rfl (lv_at hl 2 rfl) ?_
                      refine lv_iconst (v := 4) hx hb dL_law_394 (by decide) ?_
                      refine lv_aload_n hx hb dL_law_395 rfl (lv_at hl 3 rfl) ?_
                      refine lv_bipush (v := 8) hx hb dL_law_396 (by decide) ?_
                      refine lv_aload_n hx hb dL_law_398 rfl (lv_at hl 2 rfl) ?_
                      refine lv_iconst (v := 3) hx hb dL_law_399 (by decide) ?_
                      refine lv_dup2_11 hx hb dL_law_400 rfl rfl ?_
                      refine x_iald (k := 3) hx hb hK hP 0 0 rfl rfl (inb_in (by decide)) rfl dL_law_401 ?_
                      refine lv_iconst (v := 1) hx hb dL_law_402 (by decide) ?_
                      refine lv_isub hx hb dL_law_403 ?_
                      refine lv_dup_x2 hx hb dL_law_404 rfl rfl rfl ?_
                      refine x_iast (k := 3) hx hb hK hP hD hS 0 0 rfl rfl (inb_in (by decide)) rfl dL_law_405 (fun H locs hP hD hS => ?_)
                      have hP : va_P (dC, dI) vwCl ([(aq, .inl (cI, 5, .inl (upd q_40 3 ((q_40 3) - (1 : Int32))))), (ab, .inl (cI, 48, .inl bl_40)), (am, .inl (cL, 64, .inr (.inl me_40)))] ++ mod cI cC cT cL ad fr q53.2.1 R_40 P q53.2.2 S B_40) H := hP
                      have hD : va_D A ([(aq, .inl (cI, 5, .inl (upd q_40 3 ((q_40 3) - (1 : Int32))))), (ab, .inl (cI, 48, .inl bl_40)), (am, .inl (cL, 64, .inr (.inl me_40)))] ++ mod cI cC cT cL ad fr q53.2.1 R_40 P q53.2.2 S B_40) := hD
                      refine lv_imul hx hb dL_law_406 ?_
                      refine lv_iconst (v := 3) hx hb dL_law_407 (by decide) ?_
                      refine lv_iadd hx hb dL_law_408 ?_
                      obtain ⟨g57, hd⟩ := gd_some hd
                      refine x_iald (k := (((8 : Int32) * ((q_40 3) - (1 : Int32))) + (3 : Int32)).toNatClampNeg) hx hb hK hP 1 0 rfl rfl (inb_in g57) rfl dL_law_409 ?_
                      refine x_iast (k := 4) hx hb hK hP hD hS 0 0 rfl rfl (inb_in (by decide)) rfl dL_law_410 (fun H locs hP hD hS => ?_)
                      have hP : va_P (dC, dI) vwCl ([(aq, .inl (cI, 5, .inl (upd (upd q_40 3 ((q_40 3) - (1 : Int32))) 4 (bl_40 (((8 : Int32) * ((q_40 3) - (1 : Int32))) + (3 : Int32)).toNatClampNeg)))), (ab, .inl (cI, 48, .inl bl_40)), (am, .inl (cL, 64, .inr (.inl me_40)))] ++ mod cI cC cT cL ad fr q53.2.1 R_40 P q53.2.2 S B_40) H := hP
                      have hD : va_D A ([(aq, .inl (cI, 5, .inl (upd (upd q_40 3 ((q_40 3) - (1 : Int32))) 4 (bl_40 (((8 : Int32) * ((q_40 3) - (1 : Int32))) + (3 : Int32)).toNatClampNeg)))), (ab, .inl (cI, 48, .inl bl_40)), (am, .inl (cL, 64, .inr (.inl me_40)))] ++ mod cI cC cT cL ad fr q53.2.1 R_40 P q53.2.2 S B_40) := hD
                      refine lv_goto (tgt := 730) hx hb dL_law_411 (by decide) ?_
                      cases hd
                      exact Kq6 _ _ _ hP hD hS (lv_sub hl [0, 1, 2, 3, 4, 5, 6] rfl)
                  · replace hd := ite_f c55 hd
                    refine lv_iconst (v := 0) hx hb dL_law_385 (by decide) ?_
                    exact no_some hd
                replace hd := hq54
                clear hq54
                refine lv_if_le (tgt := 380) hx hb dL_law_369 (by decide) (fun c58 => ?_) (fun c58 => ?_)
                · replace hd := ite_t c58 hd
                  refine lv_bipush (v := -5) hx hb dL_law_380 (by decide) ?_
                  cases hd
                  exact Kq54 _ _ _ hP hD hS (lv_sub hl [1, 2, 3, 4, 5, 6, 8] rfl)
                · replace hd := ite_f c58 hd
                  refine lv_aload_n hx hb dL_law_372 rfl (lv_at hl 3 rfl) ?_
                  refine lv_iconst (v := 3) hx hb dL_law_373 (by decide) ?_
                  refine x_iald (k := 3) hx hb hK hP 0 0 rfl rfl (inb_in (by decide)) rfl dL_law_374 ?_
                  refine lv_iconst (v := 1) hx hb dL_law_375 (by decide) ?_
                  refine lv_isub hx hb dL_law_376 ?_
                  refine lv_goto (tgt := 382) hx hb dL_law_377 (by decide) ?_
                  cases hd
                  exact Kq54 _ _ _ hP hD hS (lv_sub hl [1, 2, 3, 4, 5, 6, 8] rfl)
          · replace hd := ite_f c9 hd
            refine lv_aload_n hx hb dL_law_94 rfl (lv_at hl 3 rfl) ?_
            refine lv_iconst (v := 3) hx hb dL_law_95 (by decide) ?_
            refine x_iald (k := 3) hx hb hK hP 0 0 rfl rfl (inb_in (by decide)) rfl dL_law_96 ?_
            refine lv_iconst (v := 5) hx hb dL_law_97 (by decide) ?_
            refine lv_icmp_ge (tgt := 347) hx hb dL_law_98 (by decide) (fun c59 => ?_) (fun c59 => ?_)
            · replace hd := ite_t c59 hd
              refine lv_iload hx hb dL_law_347 (lv_at hl 0 rfl) ?_
              refine lv_iconst (v := 2) hx hb dL_law_349 (by decide) ?_
              obtain ⟨J60, eJ60, hd⟩ := nm_ex hd
              have KJ60 : ∀ (u_ : Unit) (hd : J60 u_ = some q6) (H : Heap) (locs : List Loc) (ls : Array Slot), va_P (dC, dI) vwCl ([(aq, .inl (cI, 5, .inl q_40)), (ab, .inl (cI, 48, .inl bl_40)), (am, .inl (cL, 64, .inr (.inl me_40)))] ++ mod cI cC cT cL ad fr T_40 R_40 P Y_40 S B_40) H → va_D A ([(aq, .inl (cI, 5, .inl q_40)), (ab, .inl (cI, 48, .inl bl_40)), (am, .inl (cL, 64, .inr (.inl me_40)))] ++ mod cI cC cT cL ad fr T_40 R_40 P Y_40 S B_40) → va_S A s.heap H locs → lv_has ls 14 [(0, .ref b), (1, .ref (ad 0)), (2, .ref aq), (3, .ref ab), (4, .ref am), (5, .int y5_40), (6, .int q3), (7, .int q4), (8, .int q5)] → W p l e room_1 s m #[Value.ref b] below meth c H locs 99 67507 Q (F0 m 414 ls []) := by
                intro u_ hd H locs ls hP hD hS hl
                replace hd := jx1 eJ60 hd
                refine lv_aload_n hx hb dL_law_414 rfl (lv_at hl 2 rfl) ?_
                refine lv_iconst (v := 4) hx hb dL_law_415 (by decide) ?_
                refine x_iald (k := 4) hx hb hK hP 0 0 rfl rfl (inb_in (by decide)) rfl dL_law_416 ?_
                refine lv_if_ne (tgt := 431) hx hb dL_law_417 (by decide) (fun c61 => ?_) (fun c61 => ?_)
                · replace hd := ite_f c61 hd
                  refine lv_iload hx hb dL_law_431 (lv_at hl 8 rfl) ?_
                  refine lv_bipush (v := 6) hx hb dL_law_433 (by decide) ?_
                  refine lv_icmp_ge (tgt := 511) hx hb dL_law_435 (by decide) (fun c62 => ?_) (fun c62 => ?_)
                  · replace hd := ite_t c62 hd
                    refine lv_iload hx hb dL_law_511 (lv_at hl 8 rfl) ?_
                    refine lv_bipush (v := 9) hx hb dL_law_513 (by decide) ?_
                    refine lv_icmp_ge (tgt := 677) hx hb dL_law_515 (by decide) (fun c63 => ?_) (fun c63 => ?_)
                    · replace hd := ite_t c63 hd
                      refine lv_iload hx hb dL_law_677 (lv_at hl 7 rfl) ?_
                      refine lv_iconst (v := 3) hx hb dL_law_679 (by decide) ?_
                      obtain ⟨q64, hq64, hd⟩ := bnd_some hd
                      have hPc : va_P (dC, dI) vwCl [] _ := hP.sub [] rfl
                      have hDc := hD.sub (ws' := []) [] (by decide) rfl
                      have hFc := va_free (wc := []) hD hS hA [] rfl
                      refine va_calli (va_runS (As := [.int q4, .int (3 : Int32)]) (rest := []) ⟨hx, hb, hml, hown, hts⟩ (c_L_low l dC dI cI cC cT cL H.size q4 (3 : Int32) q64 hq64) (va_cwS 2 hts gL_law_L_low rfl rfl rfl hp_L_low ⟨Nat.le_of_ble_eq_true rfl, Nat.le_of_ble_eq_true rfl⟩) ⟨preB_fb, fun U hU hW => preB_mk hU hW hPc hK hDc hN⟩ rfl rfl hl.1 rfl (lv_room (Nat.le_of_ble_eq_true rfl)) dL_law_680 ⟨Nat.le_of_ble_eq_true rfl, Nat.le_of_ble_eq_true rfl⟩) hS (fun q _ h => hFc q h) hFc (fun r_ u_ t H locs ht hvm hw hB hz1 hk1 hS => ?_)
                      have hw : r_ = q64 := hw
                      have hw := hw.symm
                      subst hw
                      obtain ⟨hP, hD⟩ := x_joinL (r' := [(aq, .inl (cI, 5, .inl q_40)), (ab, .inl (cI, 48, .inl bl_40)), (am, .inl (cL, 64, .inr (.inl me_40)))]) hP hD [] [0, 1, 2] rfl rfl (by decide) (by decide) hk1 hFc ht hB [0, 1, 2] (by decide) rfl rfl
                      clear hPc hDc hFc hk1 hB ht hz1 hvm
                      refine lv_istore (lv' := [(9, .int q64), (0, .ref b), (1, .ref (ad 0)), (2, .ref aq), (3, .ref ab), (4, .ref am), (5, .int y5_40), (6, .int q3), (7, .int q4), (8, .int q5)]) hx hb dL_law_683 hl (by decide) rfl (fun ls hl => ?_)
                      refine lv_iload hx hb dL_law_685 (lv_at hl 8 rfl) ?_
                      refine lv_iconst (v := 2) hx hb dL_law_687 (by decide) ?_
                      refine lv_ishr hx hb dL_law_688 ?_
                      refine lv_iload hx hb dL_law_689 (lv_at hl 0 rfl) ?_
                      refine lv_iconst (v := 2) hx hb dL_law_691 (by decide) ?_
                      obtain ⟨q65, hq65, hd⟩ := bnd_some hd
                      have Kq65 : ∀ (H : Heap) (locs : List Loc) (ls : Array Slot), va_P (dC, dI) vwCl ([(aq, .inl (cI, 5, .inl q_40)), (ab, .inl (cI, 48, .inl bl_40)), (am, .inl (cL, 64, .inr (.inl me_40)))] ++ mod cI cC cT cL ad fr T_40 R_40 P Y_40 S B_40) H → va_D A ([(aq, .inl (cI, 5, .inl q_40)), (ab, .inl (cI, 48, .inl bl_40)), (am, .inl (cL, 64, .inr (.inl me_40)))] ++ mod cI cC cT cL ad fr T_40 R_40 P Y_40 S B_40) → va_S A s.heap H locs → lv_has ls 14 [(0, .ref b), (1, .ref (ad 0)), (2, .ref aq), (3, .ref ab), (4, .ref am), (5, .int y5_40), (7, .int q4), (9, .int q64)] → W p l e room_1 s m #[Value.ref b] below meth c H locs 99 67507 Q (F0 m 702 ls [.int q65, .int (q4 >>> ((2 : Int32) &&& 31))]) := by
                        intro H locs ls hP hD hS hl
                        obtain ⟨q66, hq66, hd⟩ := bnd_some hd
                        have hPc : va_P (dC, dI) vwCl [] _ := hP.sub [] rfl
                        have hDc := hD.sub (ws' := []) [] (by decide) rfl
                        have hFc := va_free (wc := []) hD hS hA [] rfl
                        refine va_calli (va_runS (As := [.int (q4 >>> ((2 : Int32) &&& 31)), .int q65]) (rest := []) ⟨hx, hb, hml, hown, hts⟩ (c_L_low l dC dI cI cC cT cL H.size (q4 >>> ((2 : Int32) &&& 31)) q65 q66 hq66) (va_cwS 2 hts gL_law_L_low rfl rfl rfl hp_L_low ⟨Nat.le_of_ble_eq_true rfl, Nat.le_of_ble_eq_true rfl⟩) ⟨preB_fb, fun U hU hW => preB_mk hU hW hPc hK hDc hN⟩ rfl rfl hl.1 rfl (lv_room (Nat.le_of_ble_eq_true rfl)) dL_law_702 ⟨Nat.le_of_ble_eq_true rfl, Nat.le_of_ble_eq_true rfl⟩) hS (fun q _ h => hFc q h) hFc (fun r_ u_ t H locs ht hvm hw hB hz1 hk1 hS => ?_)
                        have hw : r_ = q66 := hw
                        have hw := hw.symm
                        subst hw
                        obtain ⟨hP, hD⟩ := x_joinL (r' := [(aq, .inl (cI, 5, .inl q_40)), (ab, .inl (cI, 48, .inl bl_40)), (am, .inl (cL, 64, .inr (.inl me_40)))]) hP hD [] [0, 1, 2] rfl rfl (by decide) (by decide) hk1 hFc ht hB [0, 1, 2] (by decide) rfl rfl
                        clear hPc hDc hFc hk1 hB ht hz1 hvm
                        refine lv_istore (lv' := [(10, .int q66), (0, .ref b), (1, .ref (ad 0)), (2, .ref aq), (3, .ref ab), (4, .ref am), (5, .int y5_40), (7, .int q4), (9, .int q64)]) hx hb dL_law_705 hl (by decide) rfl (fun ls hl => ?_)
                        refine lv_aload_n hx hb dL_law_707 rfl (lv_at hl 2 rfl) ?_
                        refine lv_iload hx hb dL_law_708 (lv_at hl 8 rfl) ?_
                        refine lv_iload hx hb dL_law_710 (lv_at hl 0 rfl) ?_
                        obtain ⟨q67, hq67, hd⟩ := bnd_some hd
                        have hPc := P_r hP
                        have hDc := D_r hD
                        have hFc := F_r hD hS hA
                        refine va_calli (va_runV (As := [.int q64, .int q66]) (rest := []) ⟨hx, hb, hml, hown, hts⟩ (w_set l dC dI cI cC cT cL ad fr hfr0 hfr1 hfr2 hfr3 hfr4 hfr5 H.size T_40 R_40 P Y_40 S B_40 q64 q66 q67 hq67) (cwV 2 hts gL_law_X6_set rfl rfl rfl hv_X6_set ⟨Nat.le_of_ble_eq_true rfl, Nat.le_of_ble_eq_true rfl⟩) ⟨preB_fb, va_recv hK hPc (ci := 6) (q0 := 0) rfl rfl, fun U hU hW => preB_mk hU hW hPc hK hDc hN⟩ rfl rfl hl.1 rfl (lv_room (Nat.le_of_ble_eq_true rfl)) dL_law_712 ⟨Nat.le_of_ble_eq_true rfl, Nat.le_of_ble_eq_true rfl⟩) hS (fun q _ h => hFc q h) hFc (fun r_ u_ t H locs ht hvm hw hB hz1 hk1 hS => ?_)
                        have hw : r_ = q67.1 := hw
                        have hw := hw.symm
                        subst hw
                        obtain ⟨hP, hD⟩ := x_joinR hP hD hk1 hFc ht hB
                        clear hPc hDc hFc hk1 hB ht hz1 hvm
                        refine lv_aload_n hx hb dL_law_715 rfl (lv_at hl 3 rfl) ?_
                        refine lv_iload hx hb dL_law_716 (lv_at hl 8 rfl) ?_
                        obtain ⟨g68, hd⟩ := gd_some hd
                        refine x_iald (k := q64.toNatClampNeg) hx hb hK hP 0 0 rfl rfl (inb_in g68) rfl dL_law_718 ?_
                        refine lv_icmp_eq (tgt := 724) hx hb dL_law_719 (by decide) (fun c69 => ?_) (fun c69 => ?_)
                        · replace hd := ite_t c69 hd
                          refine lv_aload_n hx hb dL_law_724 rfl (lv_at hl 3 rfl) ?_
                          refine lv_iload hx hb dL_law_725 (lv_at hl 8 rfl) ?_
                          refine lv_iload hx hb dL_law_727 (lv_at hl 0 rfl) ?_
                          obtain ⟨g70, hd⟩ := gd_some hd
                          refine x_iast (k := q64.toNatClampNeg) hx hb hK hP hD hS 0 0 rfl rfl (inb_in g70) rfl dL_law_729 (fun H locs hP hD hS => ?_)
                          have hP : va_P (dC, dI) vwCl ([(aq, .inl (cI, 5, .inl (upd q_40 q64.toNatClampNeg q66))), (ab, .inl (cI, 48, .inl bl_40)), (am, .inl (cL, 64, .inr (.inl me_40)))] ++ mod cI cC cT cL ad fr q67.2.1 R_40 P q67.2.2 S B_40) H := hP
                          have hD : va_D A ([(aq, .inl (cI, 5, .inl (upd q_40 q64.toNatClampNeg q66))), (ab, .inl (cI, 48, .inl bl_40)), (am, .inl (cL, 64, .inr (.inl me_40)))] ++ mod cI cC cT cL ad fr q67.2.1 R_40 P q67.2.2 S B_40) := hD
                          cases hd
                          exact Kq6 _ _ _ hP hD hS (lv_sub hl [1, 2, 3, 4, 5, 6, 7] rfl)
                        · replace hd := ite_f c69 hd
                          refine lv_iconst (v := 0) hx hb dL_law_722 (by decide) ?_
                          exact no_some hd
                      replace hd := hq65
                      clear hq65
                      refine lv_icmp_ne (tgt := 700) hx hb dL_law_692 (by decide) (fun c71 => ?_) (fun c71 => ?_)
                      · replace hd := ite_f c71 hd
                        refine lv_bipush (v := 100) hx hb dL_law_700 (by decide) ?_
                        cases hd
                        exact Kq65 _ _ _ hP hD hS (lv_sub hl [1, 2, 3, 4, 5, 6, 8, 0] rfl)
                      · replace hd := ite_t c71 hd
                        refine lv_bipush (v := 21) hx hb dL_law_695 (by decide) ?_
                        refine lv_goto (tgt := 702) hx hb dL_law_697 (by decide) ?_
                        cases hd
                        exact Kq65 _ _ _ hP hD hS (lv_sub hl [1, 2, 3, 4, 5, 6, 8, 0] rfl)
                    · replace hd := ite_f c63 hd
                      refine lv_iload hx hb dL_law_518 (lv_at hl 7 rfl) ?_
                      refine lv_aload_n hx hb dL_law_520 rfl (lv_at hl 2 rfl) ?_
                      refine lv_iconst (v := 4) hx hb dL_law_521 (by decide) ?_
                      refine x_iald (k := 4) hx hb hK hP 0 0 rfl rfl (inb_in (by decide)) rfl dL_law_522 ?_
                      obtain ⟨q72, hq72, hd⟩ := bnd_some hd
                      have hPc : va_P (dC, dI) vwCl [] _ := hP.sub [] rfl
                      have hDc := hD.sub (ws' := []) [] (by decide) rfl
                      have hFc := va_free (wc := []) hD hS hA [] rfl
                      refine va_calli (va_runS (As := [.int q4, .int (q_40 4)]) (rest := []) ⟨hx, hb, hml, hown, hts⟩ (c_L_low l dC dI cI cC cT cL H.size q4 (q_40 4) q72 hq72) (va_cwS 2 hts gL_law_L_low rfl rfl rfl hp_L_low ⟨Nat.le_of_ble_eq_true rfl, Nat.le_of_ble_eq_true rfl⟩) ⟨preB_fb, fun U hU hW => preB_mk hU hW hPc hK hDc hN⟩ rfl rfl hl.1 rfl (lv_room (Nat.le_of_ble_eq_true rfl)) dL_law_523 ⟨Nat.le_of_ble_eq_true rfl, Nat.le_of_ble_eq_true rfl⟩) hS (fun q _ h => hFc q h) hFc (fun r_ u_ t H locs ht hvm hw hB hz1 hk1 hS => ?_)
                      have hw : r_ = q72 := hw
                      have hw := hw.symm
                      subst hw
                      obtain ⟨hP, hD⟩ := x_joinL (r' := [(aq, .inl (cI, 5, .inl q_40)), (ab, .inl (cI, 48, .inl bl_40)), (am, .inl (cL, 64, .inr (.inl me_40)))]) hP hD [] [0, 1, 2] rfl rfl (by decide) (by decide) hk1 hFc ht hB [0, 1, 2] (by decide) rfl rfl
                      clear hPc hDc hFc hk1 hB ht hz1 hvm
                      refine lv_istore (lv' := [(9, .int q72), (0, .ref b), (1, .ref (ad 0)), (2, .ref aq), (3, .ref ab), (4, .ref am), (5, .int y5_40), (6, .int q3), (7, .int q4), (8, .int q5)]) hx hb dL_law_526 hl (by decide) rfl (fun ls hl => ?_)
                      refine lv_iload hx hb dL_law_528 (lv_at hl 0 rfl) ?_
                      refine lv_iload hx hb dL_law_530 (lv_at hl 8 rfl) ?_
                      refine lv_bipush (v := 7) hx hb dL_law_532 (by decide) ?_
                      refine lv_ishr hx hb dL_law_534 ?_
                      refine lv_iload hx hb dL_law_535 (lv_at hl 7 rfl) ?_
                      refine lv_iconst (v := 5) hx hb dL_law_537 (by decide) ?_
                      refine lv_ishr hx hb dL_law_538 ?_
                      refine lv_iconst (v := 2) hx hb dL_law_539 (by decide) ?_
                      obtain ⟨q73, hq73, hd⟩ := bnd_some hd
                      have hPc : va_P (dC, dI) vwCl [] _ := hP.sub [] rfl
                      have hDc := hD.sub (ws' := []) [] (by decide) rfl
                      have hFc := va_free (wc := []) hD hS hA [] rfl
                      refine va_calli (va_runS (As := [.int (q3 >>> ((5 : Int32) &&& 31)), .int (2 : Int32)]) (rest := [.int (q4 >>> ((7 : Int32) &&& 31)), .int q72]) ⟨hx, hb, hml, hown, hts⟩ (c_L_low l dC dI cI cC cT cL H.size (q3 >>> ((5 : Int32) &&& 31)) (2 : Int32) q73 hq73) (va_cwS 2 hts gL_law_L_low rfl rfl rfl hp_L_low ⟨Nat.le_of_ble_eq_true rfl, Nat.le_of_ble_eq_true rfl⟩) ⟨preB_fb, fun U hU hW => preB_mk hU hW hPc hK hDc hN⟩ rfl rfl hl.1 rfl (lv_room (Nat.le_of_ble_eq_true rfl)) dL_law_540 ⟨Nat.le_of_ble_eq_true rfl, Nat.le_of_ble_eq_true rfl⟩) hS (fun q _ h => hFc q h) hFc (fun r_ u_ t H locs ht hvm hw hB hz1 hk1 hS => ?_)
                      have hw : r_ = q73 := hw
                      have hw := hw.symm
                      subst hw
                      obtain ⟨hP, hD⟩ := x_joinL (r' := [(aq, .inl (cI, 5, .inl q_40)), (ab, .inl (cI, 48, .inl bl_40)), (am, .inl (cL, 64, .inr (.inl me_40)))]) hP hD [] [0, 1, 2] rfl rfl (by decide) (by decide) hk1 hFc ht hB [0, 1, 2] (by decide) rfl rfl
                      clear hPc hDc hFc hk1 hB ht hz1 hvm
                      obtain ⟨q74, hq74, hd⟩ := bnd_some hd
                      have Kq74 : ∀ (H : Heap) (locs : List Loc) (ls : Array Slot), va_P (dC, dI) vwCl ([(aq, .inl (cI, 5, .inl q_40)), (ab, .inl (cI, 48, .inl bl_40)), (am, .inl (cL, 64, .inr (.inl me_40)))] ++ mod cI cC cT cL ad fr T_40 R_40 P Y_40 S B_40) H → va_D A ([(aq, .inl (cI, 5, .inl q_40)), (ab, .inl (cI, 48, .inl bl_40)), (am, .inl (cL, 64, .inr (.inl me_40)))] ++ mod cI cC cT cL ad fr T_40 R_40 P Y_40 S B_40) → va_S A s.heap H locs → lv_has ls 14 [(0, .ref b), (1, .ref (ad 0)), (2, .ref aq), (3, .ref ab), (4, .ref am), (5, .int y5_40), (7, .int q4), (9, .int q72)] → W p l e room_1 s m #[Value.ref b] below meth c H locs 99 67507 Q (F0 m 552 ls [.int q74, .int (q4 >>> ((7 : Int32) &&& 31)), .int q72]) := by
                        intro H locs ls hP hD hS hl
                        obtain ⟨q75, hq75, hd⟩ := bnd_some hd
                        have hPc : va_P (dC, dI) vwCl [] _ := hP.sub [] rfl
                        have hDc := hD.sub (ws' := []) [] (by decide) rfl
                        have hFc := va_free (wc := []) hD hS hA [] rfl
                        refine va_calli (va_runS (As := [.int (q4 >>> ((7 : Int32) &&& 31)), .int q74]) (rest := [.int q72]) ⟨hx, hb, hml, hown, hts⟩ (c_L_low l dC dI cI cC cT cL H.size (q4 >>> ((7 : Int32) &&& 31)) q74 q75 hq75) (va_cwS 2 hts gL_law_L_low rfl rfl rfl hp_L_low ⟨Nat.le_of_ble_eq_true rfl, Nat.le_of_ble_eq_true rfl⟩) ⟨preB_fb, fun U hU hW => preB_mk hU hW hPc hK hDc hN⟩ rfl rfl hl.1 rfl (lv_room (Nat.le_of_ble_eq_true rfl)) dL_law_552 ⟨Nat.le_of_ble_eq_true rfl, Nat.le_of_ble_eq_true rfl⟩) hS (fun q _ h => hFc q h) hFc (fun r_ u_ t H locs ht hvm hw hB hz1 hk1 hS => ?_)
                        have hw : r_ = q75 := hw
                        have hw := hw.symm
                        subst hw
                        obtain ⟨hP, hD⟩ := x_joinL (r' := [(aq, .inl (cI, 5, .inl q_40)), (ab, .inl (cI, 48, .inl bl_40)), (am, .inl (cL, 64, .inr (.inl me_40)))]) hP hD [] [0, 1, 2] rfl rfl (by decide) (by decide) hk1 hFc ht hB [0, 1, 2] (by decide) rfl rfl
                        clear hPc hDc hFc hk1 hB ht hz1 hvm
                        refine lv_iadd hx hb dL_law_555 ?_
                        refine lv_istore (lv' := [(10, .int (q72 + q75)), (0, .ref b), (1, .ref (ad 0)), (2, .ref aq), (3, .ref ab), (4, .ref am), (5, .int y5_40), (7, .int q4), (9, .int q72)]) hx hb dL_law_556 hl (by decide) rfl (fun ls hl => ?_)
                        refine lv_iload hx hb dL_law_558 (lv_at hl 0 rfl) ?_
                        refine lv_aload_n hx hb dL_law_560 rfl (lv_at hl 3 rfl) ?_
                        refine lv_iconst (v := 4) hx hb dL_law_561 (by decide) ?_
                        refine x_iald (k := 4) hx hb hK hP 0 0 rfl rfl (inb_in (by decide)) rfl dL_law_562 ?_
                        obtain ⟨q76, hq76, hd⟩ := bnd_some hd
                        have Kq76 : ∀ (H : Heap) (locs : List Loc) (ls : Array Slot), va_P (dC, dI) vwCl ([(aq, .inl (cI, 5, .inl q_40)), (ab, .inl (cI, 48, .inl bl_40)), (am, .inl (cL, 64, .inr (.inl me_40)))] ++ mod cI cC cT cL ad fr T_40 R_40 P Y_40 S B_40) H → va_D A ([(aq, .inl (cI, 5, .inl q_40)), (ab, .inl (cI, 48, .inl bl_40)), (am, .inl (cL, 64, .inr (.inl me_40)))] ++ mod cI cC cT cL ad fr T_40 R_40 P Y_40 S B_40) → va_S A s.heap H locs → lv_has ls 14 [(0, .ref b), (1, .ref (ad 0)), (2, .ref aq), (3, .ref ab), (4, .ref am), (5, .int y5_40), (7, .int q4), (9, .int q72)] → W p l e room_1 s m #[Value.ref b] below meth c H locs 99 67507 Q (F0 m 576 ls [.int q76]) := by
                          intro H locs ls hP hD hS hl
                          refine lv_istore (lv' := [(10, .int q76), (0, .ref b), (1, .ref (ad 0)), (2, .ref aq), (3, .ref ab), (4, .ref am), (5, .int y5_40), (7, .int q4), (9, .int q72)]) hx hb dL_law_576 hl (by decide) rfl (fun ls hl => ?_)
                          refine lv_iload hx hb dL_law_578 (lv_at hl 7 rfl) ?_
                          refine lv_bipush (v := 11) hx hb dL_law_580 (by decide) ?_
                          refine lv_ishr hx hb dL_law_582 ?_
                          refine lv_bipush (v := 100) hx hb dL_law_583 (by decide) ?_
                          obtain ⟨q77, hq77, hd⟩ := bnd_some hd
                          have hPc : va_P (dC, dI) vwCl [] _ := hP.sub [] rfl
                          have hDc := hD.sub (ws' := []) [] (by decide) rfl
                          have hFc := va_free (wc := []) hD hS hA [] rfl
                          refine va_calli (va_runS (As := [.int (q4 >>> ((11 : Int32) &&& 31)), .int (100 : Int32)]) (rest := []) ⟨hx, hb, hml, hown, hts⟩ (c_L_low l dC dI cI cC cT cL H.size (q4 >>> ((11 : Int32) &&& 31)) (100 : Int32) q77 hq77) (va_cwS 2 hts gL_law_L_low rfl rfl rfl hp_L_low ⟨Nat.le_of_ble_eq_true rfl, Nat.le_of_ble_eq_true rfl⟩) ⟨preB_fb, fun U hU hW => preB_mk hU hW hPc hK hDc hN⟩ rfl rfl hl.1 rfl (lv_room (Nat.le_of_ble_eq_true rfl)) dL_law_585 ⟨Nat.le_of_ble_eq_true rfl, Nat.le_of_ble_eq_true rfl⟩) hS (fun q _ h => hFc q h) hFc (fun r_ u_ t H locs ht hvm hw hB hz1 hk1 hS => ?_)
                          have hw : r_ = q77 := hw
                          have hw := hw.symm
                          subst hw
                          obtain ⟨hP, hD⟩ := x_joinL (r' := [(aq, .inl (cI, 5, .inl q_40)), (ab, .inl (cI, 48, .inl bl_40)), (am, .inl (cL, 64, .inr (.inl me_40)))]) hP hD [] [0, 1, 2] rfl rfl (by decide) (by decide) hk1 hFc ht hB [0, 1, 2] (by decide) rfl rfl
                          clear hPc hDc hFc hk1 hB ht hz1 hvm
                          refine lv_istore (lv' := [(11, .int q77), (10, .int q76), (0, .ref b), (1, .ref (ad 0)), (2, .ref aq), (3, .ref ab), (4, .ref am), (5, .int y5_40), (7, .int q4), (9, .int q72)]) hx hb dL_law_588 hl (by decide) rfl (fun ls hl => ?_)
                          refine lv_iconst (v := 0) hx hb dL_law_590 (by decide) ?_
                          refine lv_istore (lv' := [(12, .int (0 : Int32)), (11, .int q77), (10, .int q76), (0, .ref b), (1, .ref (ad 0)), (2, .ref aq), (3, .ref ab), (4, .ref am), (5, .int y5_40), (7, .int q4), (9, .int q72)]) hx hb dL_law_591 hl (by decide) rfl (fun ls hl => ?_)
                          refine lv_iload hx hb dL_law_593 (lv_at hl 10 rfl) ?_
                          refine lv_istore (lv' := [(13, .int q72), (12, .int (0 : Int32)), (11, .int q77), (10, .int q76), (0, .ref b), (1, .ref (ad 0)), (2, .ref aq), (3, .ref ab), (4, .ref am), (5, .int y5_40), (7, .int q4), (9, .int q72)]) hx hb dL_law_595 hl (by decide) rfl (fun ls hl => ?_)
                          obtain ⟨q78, hq78, hd⟩ := bnd_some hd
                          have Kq78 : ∀ (H : Heap) (locs : List Loc) (ls : Array Slot), va_P (dC, dI) vwCl ([(aq, .inl (cI, 5, .inl q_40)), (ab, .inl (cI, 48, .inl bl_40)), (am, .inl (cL, 64, .inr (.inl q78.2)))] ++ mod cI cC cT cL ad fr T_40 R_40 P Y_40 S B_40) H → va_D A ([(aq, .inl (cI, 5, .inl q_40)), (ab, .inl (cI, 48, .inl bl_40)), (am, .inl (cL, 64, .inr (.inl q78.2)))] ++ mod cI cC cT cL ad fr T_40 R_40 P Y_40 S B_40) → va_S A s.heap H locs → lv_has ls 14 [(0, .ref b), (1, .ref (ad 0)), (2, .ref aq), (3, .ref ab), (4, .ref am), (5, .int y5_40), (7, .int q4), (9, .int q72), (10, .int q76), (11, .int q77), (12, .int q78.1)] → W p l e room_1 s m #[Value.ref b] below meth c H locs 99 67507 Q (F0 m 657 ls []) := by
                            intro H locs ls hP hD hS hl
                            refine lv_aload_n hx hb dL_law_657 rfl (lv_at hl 1 rfl) ?_
                            refine lv_iload hx hb dL_law_658 (lv_at hl 7 rfl) ?_
                            refine lv_iload hx hb dL_law_660 (lv_at hl 8 rfl) ?_
                            refine lv_iload hx hb dL_law_662 (lv_at hl 9 rfl) ?_
                            obtain ⟨q79, hq79, hd⟩ := bnd_some hd
                            have hPc := P_r hP
                            have hDc := D_r hD
                            have hFc := F_r hD hS hA
                            refine va_calli (va_runV (As := [.int q72, .int q76, .int q77]) (rest := []) ⟨hx, hb, hml, hown, hts⟩ (w_fade l dC dI cI cC cT cL ad fr hfr0 hfr1 hfr2 hfr3 hfr4 hfr5 H.size T_40 R_40 P Y_40 S B_40 q72 q76 q77 q79 hq79) (cwV 3 hts gL_law_X6_fade rfl rfl rfl hv_X6_fade ⟨Nat.le_of_ble_eq_true rfl, Nat.le_of_ble_eq_true rfl⟩) ⟨preB_fb, va_recv hK hPc (ci := 6) (q0 := 0) rfl rfl, fun U hU hW => preB_mk hU hW hPc hK hDc hN⟩ rfl rfl hl.1 rfl (lv_room (Nat.le_of_ble_eq_true rfl)) dL_law_664 ⟨Nat.le_of_ble_eq_true rfl, Nat.le_of_ble_eq_true rfl⟩) hS (fun q _ h => hFc q h) hFc (fun r_ u_ t H locs ht hvm hw hB hz1 hk1 hS => ?_)
                            have hw : r_ = q79.1 := hw
                            have hw := hw.symm
                            subst hw
                            obtain ⟨hP, hD⟩ := x_joinR hP hD hk1 hFc ht hB
                            clear hPc hDc hFc hk1 hB ht hz1 hvm
                            refine lv_iload hx hb dL_law_667 (lv_at hl 10 rfl) ?_
                            refine lv_icmp_eq (tgt := 674) hx hb dL_law_669 (by decide) (fun c80 => ?_) (fun c80 => ?_)
                            · replace hd := ite_t c80 hd
                              refine lv_goto (tgt := 730) hx hb dL_law_674 (by decide) ?_
                              cases hd
                              exact Kq6 _ _ _ hP hD hS (lv_sub hl [0, 1, 2, 3, 4, 5, 6] rfl)
                            · replace hd := ite_f c80 hd
                              refine lv_iconst (v := 0) hx hb dL_law_672 (by decide) ?_
                              exact no_some hd
                          clear hd
                          have KL86 : ∀ (fu : Nat) (y12_597 : Int32) (y13_597 : Int32) (me_597 : (Nat → Int64)) (hd : den_L_law_L597 q76 q77 fu y12_597 y13_597 me_597 = some q78) (H : Heap) (locs : List Loc) (ls : Array Slot), va_P (dC, dI) vwCl ([(aq, .inl (cI, 5, .inl q_40)), (ab, .inl (cI, 48, .inl bl_40)), (am, .inl (cL, 64, .inr (.inl me_597)))] ++ mod cI cC cT cL ad fr T_40 R_40 P Y_40 S B_40) H → va_D A ([(aq, .inl (cI, 5, .inl q_40)), (ab, .inl (cI, 48, .inl bl_40)), (am, .inl (cL, 64, .inr (.inl me_597)))] ++ mod cI cC cT cL ad fr T_40 R_40 P Y_40 S B_40) → va_S A s.heap H locs → lv_has ls 14 [(0, .ref b), (1, .ref (ad 0)), (2, .ref aq), (3, .ref ab), (4, .ref am), (5, .int y5_40), (7, .int q4), (9, .int q72), (10, .int q76), (11, .int q77), (12, .int y12_597), (13, .int y13_597)] → W p l e room_1 s m #[Value.ref b] below meth c H locs 99 67507 Q (F0 m 597 ls []) := by
                            intro fu
                            induction fu with
                            | zero => intro y12_597 y13_597 me_597 hd; exact no_some hd
                            | succ fu ih =>
                              intro y12_597 y13_597 me_597 hd H locs ls hP hD hS hl
                              rw [den_L_law_L597] at hd
                              refine lv_iload hx hb dL_law_597 (lv_at hl 11 rfl) ?_
                              refine lv_iload hx hb dL_law_599 (lv_at hl 8 rfl) ?_
                              refine lv_icmp_gt (tgt := 657) hx hb dL_law_601 (by decide) (fun c81 => ?_) (fun c81 => ?_)
                              · replace hd := ite_t c81 hd
                                cases hd
                                exact Kq78 _ _ _ hP hD hS (lv_sub hl [0, 1, 2, 3, 4, 5, 6, 7, 8, 9, 10] rfl)
                              · replace hd := ite_f c81 hd
                                refine lv_iload hx hb dL_law_604 (lv_at hl 11 rfl) ?_
                                refine lv_aload hx hb dL_law_606 (lv_at hl 4 rfl) ?_
                                obtain ⟨q82, hq82, hd⟩ := bnd_some hd
                                have hPc : va_P (dC, dI) vwCl [(am, .inl (cL, 64, .inr (.inl me_597)))] _ := hP.sub [2] rfl
                                have hDc := hD.sub (ws' := [(am, .inl (cL, 64, .inr (.inl me_597)))]) [2] (by decide) rfl
                                have hFc := va_free (wc := [(am, .inl (cL, 64, .inr (.inl me_597)))]) hD hS hA [2] rfl
                                refine va_calli (va_runS (As := [.int y13_597, .ref am]) (rest := []) ⟨hx, hb, hml, hown, hts⟩ (c_L_mem l dC dI cI cC cT cL am 64 H.size me_597 y13_597 q82 hq82) (va_cwS 2 hts gL_law_L_mem rfl rfl rfl hp_L_mem ⟨Nat.le_of_ble_eq_true rfl, Nat.le_of_ble_eq_true rfl⟩) ⟨preB_fb, fun U hU hW => preB_mk hU hW hPc hK hDc hN⟩ rfl rfl hl.1 rfl (lv_room (Nat.le_of_ble_eq_true rfl)) dL_law_608 ⟨Nat.le_of_ble_eq_true rfl, Nat.le_of_ble_eq_true rfl⟩) hS (fun q _ h => hFc q h) hFc (fun r_ u_ t H locs ht hvm hw hB hz1 hk1 hS => ?_)
                                have hw : r_ = q82 := hw
                                have hw := hw.symm
                                subst hw
                                obtain ⟨hP, hD⟩ := x_joinL (r' := [(aq, .inl (cI, 5, .inl q_40)), (ab, .inl (cI, 48, .inl bl_40)), (am, .inl (cL, 64, .inr (.inl me_597)))]) hP hD [2] [0, 1] rfl rfl (by decide) (by decide) hk1 hFc ht hB [0, 1, 2] (by decide) rfl rfl
                                clear hPc hDc hFc hk1 hB ht hz1 hvm
                                refine lv_sipush (v := 128) hx hb dL_law_611 (by decide) ?_
                                refine lv_irem hx hb dL_law_614 (by decide) ?_
                                refine lv_iload hx hb dL_law_615 (lv_at hl 9 rfl) ?_
                                refine lv_icmp_gt (tgt := 623) hx hb dL_law_617 (by decide) (fun c83 => ?_) (fun c83 => ?_)
                                · replace hd := ite_t c83 hd
                                  refine lv_iinc (v := (y12_597 + (1 : Int32))) (lv' := [(12, .int (y12_597 + (1 : Int32))), (0, .ref b), (1, .ref (ad 0)), (2, .ref aq), (3, .ref ab), (4, .ref am), (5, .int y5_40), (7, .int q4), (9, .int q72), (10, .int q76), (11, .int q77), (13, .int y13_597)]) hx hb dL_law_623 hl (k := 10) rfl (by first | rfl | decide) (by decide) rfl (fun ls hl => ?_)
                                  refine lv_iload hx hb dL_law_626 (lv_at hl 11 rfl) ?_
                                  refine lv_iload hx hb dL_law_628 (lv_at hl 11 rfl) ?_
                                  refine lv_aload hx hb dL_law_630 (lv_at hl 5 rfl) ?_
                                  obtain ⟨q84, hq84, hd⟩ := bnd_some hd
                                  have hPc : va_P (dC, dI) vwCl [(am, .inl (cL, 64, .inr (.inl me_597)))] _ := hP.sub [2] rfl
                                  have hDc := hD.sub (ws' := [(am, .inl (cL, 64, .inr (.inl me_597)))]) [2] (by decide) rfl
                                  have hFc := va_free (wc := [(am, .inl (cL, 64, .inr (.inl me_597)))]) hD hS hA [2] rfl
                                  refine va_calli (va_runS (As := [.int y13_597, .ref am]) (rest := [.int y13_597]) ⟨hx, hb, hml, hown, hts⟩ (c_L_mem l dC dI cI cC cT cL am 64 H.size me_597 y13_597 q84 hq84) (va_cwS 2 hts gL_law_L_mem rfl rfl rfl hp_L_mem ⟨Nat.le_of_ble_eq_true rfl, Nat.le_of_ble_eq_true rfl⟩) ⟨preB_fb, fun U hU hW => preB_mk hU hW hPc hK hDc hN⟩ rfl rfl hl.1 rfl (lv_room (Nat.le_of_ble_eq_true rfl)) dL_law_632 ⟨Nat.le_of_ble_eq_true rfl, Nat.le_of_ble_eq_true rfl⟩) hS (fun q _ h => hFc q h) hFc (fun r_ u_ t H locs ht hvm hw hB hz1 hk1 hS => ?_)
                                  have hw : r_ = q84 := hw
                                  have hw := hw.symm
                                  subst hw
                                  obtain ⟨hP, hD⟩ := x_joinL (r' := [(aq, .inl (cI, 5, .inl q_40)), (ab, .inl (cI, 48, .inl bl_40)), (am, .inl (cL, 64, .inr (.inl me_597)))]) hP hD [2] [0, 1] rfl rfl (by decide) (by decide) hk1 hFc ht hB [0, 1, 2] (by decide) rfl rfl
                                  clear hPc hDc hFc hk1 hB ht hz1 hvm
                                  refine lv_sipush (v := 128) hx hb dL_law_635 (by decide) ?_
                                  refine lv_idiv hx hb dL_law_638 (by decide) ?_
                                  refine lv_sipush (v := 128) hx hb dL_law_639 (by decide) ?_
                                  refine lv_imul hx hb dL_law_642 ?_
                                  refine lv_iload hx hb dL_law_643 (lv_at hl 10 rfl) ?_
                                  refine lv_iadd hx hb dL_law_645 ?_
                                  refine lv_aload hx hb dL_law_646 (lv_at hl 5 rfl) ?_
                                  obtain ⟨q85, hq85, hd⟩ := bnd_some hd
                                  have hPc : va_P (dC, dI) vwCl [(am, .inl (cL, 64, .inr (.inl me_597)))] _ := hP.sub [2] rfl
                                  have hDc := hD.sub (ws' := [(am, .inl (cL, 64, .inr (.inl me_597)))]) [2] (by decide) rfl
                                  have hFc := va_free (wc := [(am, .inl (cL, 64, .inr (.inl me_597)))]) hD hS hA [2] rfl
                                  refine va_callv (va_runS (As := [.int y13_597, .int (((q84 / (128 : Int32)) * (128 : Int32)) + q77), .ref am]) (rest := []) ⟨hx, hb, hml, hown, hts⟩ (c_L_lay l dC dI cI cC cT cL am 64 H.size me_597 y13_597 (((q84 / (128 : Int32)) * (128 : Int32)) + q77) q85 hq85) (va_cwS 3 hts gL_law_L_lay rfl rfl rfl hp_L_lay ⟨Nat.le_of_ble_eq_true rfl, Nat.le_of_ble_eq_true rfl⟩) ⟨preB_fb, fun U hU hW => preB_mk hU hW hPc hK hDc hN⟩ rfl rfl hl.1 rfl (lv_room (Nat.le_of_ble_eq_true rfl)) dL_law_648 ⟨Nat.le_of_ble_eq_true rfl, Nat.le_of_ble_eq_true rfl⟩) hS (fun q _ h => hFc q h) hFc (fun u_ t H locs ht hvm hw hB hz1 hk1 hS => ?_)
                                  obtain ⟨hP, hD⟩ := x_joinL (r' := [(aq, .inl (cI, 5, .inl q_40)), (ab, .inl (cI, 48, .inl bl_40)), (am, .inl (cL, 64, .inr (.inl q85)))]) hP hD [2] [0, 1] rfl rfl (by decide) (by decide) hk1 hFc ht hB [0, 1, 2] (by decide) rfl rfl
                                  clear hPc hDc hFc hk1 hB ht hz1 hvm
                                  refine lv_iinc (v := (y13_597 + (1 : Int32))) (lv' := [(13, .int (y13_597 + (1 : Int32))), (12, .int (y12_597 + (1 : Int32))), (0, .ref b), (1, .ref (ad 0)), (2, .ref aq), (3, .ref ab), (4, .ref am), (5, .int y5_40), (7, .int q4), (9, .int q72), (10, .int q76), (11, .int q77)]) hx hb dL_law_651 hl (k := 11) rfl (by first | rfl | decide) (by decide) rfl (fun ls hl => ?_)
                                  refine lv_goto (tgt := 597) hx hb dL_law_654 (by decide) ?_
                                  exact ih (y12_597 + (1 : Int32)) (y13_597 + (1 : Int32)) q85 hd _ _ _ hP hD hS (lv_sub hl [2, 3, 4, 5, 6, 7, 8, 9, 10, 11, 1, 0] rfl)
                                · replace hd := ite_f c83 hd
                                  refine lv_goto (tgt := 651) hx hb dL_law_620 (by decide) ?_
                                  refine lv_iinc (v := (y13_597 + (1 : Int32))) (lv' := [(13, .int (y13_597 + (1 : Int32))), (0, .ref b), (1, .ref (ad 0)), (2, .ref aq), (3, .ref ab), (4, .ref am), (5, .int y5_40), (7, .int q4), (9, .int q72), (10, .int q76), (11, .int q77), (12, .int y12_597)]) hx hb dL_law_651 hl (k := 11) rfl (by first | rfl | decide) (by decide) rfl (fun ls hl => ?_)
                                  refine lv_goto (tgt := 597) hx hb dL_law_654 (by decide) ?_
                                  exact ih y12_597 (y13_597 + (1 : Int32)) me_597 hd _ _ _ hP hD hS (lv_sub hl [1, 2, 3, 4, 5, 6, 7, 8, 9, 10, 11, 0] rfl)
                          exact KL86 FU (0 : Int32) q72 me_40 hq78 _ _ _ hP hD hS (lv_sub hl [4, 5, 6, 7, 8, 9, 10, 11, 3, 2, 1, 0] rfl)
                        replace hd := hq76
                        clear hq76
                        refine lv_icmp_ge (tgt := 571) hx hb dL_law_563 (by decide) (fun c87 => ?_) (fun c87 => ?_)
                        · replace hd := ite_t c87 hd
                          refine lv_aload_n hx hb dL_law_571 rfl (lv_at hl 3 rfl) ?_
                          refine lv_iconst (v := 4) hx hb dL_law_572 (by decide) ?_
                          refine x_iald (k := 4) hx hb hK hP 0 0 rfl rfl (inb_in (by decide)) rfl dL_law_573 ?_
                          refine lv_iconst (v := 1) hx hb dL_law_574 (by decide) ?_
                          refine lv_isub hx hb dL_law_575 ?_
                          cases hd
                          exact Kq76 _ _ _ hP hD hS (lv_sub hl [1, 2, 3, 4, 5, 6, 7, 8] rfl)
                        · replace hd := ite_f c87 hd
                          refine lv_iload hx hb dL_law_566 (lv_at hl 0 rfl) ?_
                          refine lv_goto (tgt := 576) hx hb dL_law_568 (by decide) ?_
                          cases hd
                          exact Kq76 _ _ _ hP hD hS (lv_sub hl [1, 2, 3, 4, 5, 6, 7, 8] rfl)
                      replace hd := hq74
                      clear hq74
                      refine lv_if_ne (tgt := 550) hx hb dL_law_543 (by decide) (fun c88 => ?_) (fun c88 => ?_)
                      · replace hd := ite_f c88 hd
                        refine lv_bipush (v := 40) hx hb dL_law_550 (by decide) ?_
                        cases hd
                        exact Kq74 _ _ _ hP hD hS (lv_sub hl [1, 2, 3, 4, 5, 6, 8, 0] rfl)
                      · replace hd := ite_t c88 hd
                        refine lv_iconst (v := 4) hx hb dL_law_546 (by decide) ?_
                        refine lv_goto (tgt := 552) hx hb dL_law_547 (by decide) ?_
                        cases hd
                        exact Kq74 _ _ _ hP hD hS (lv_sub hl [1, 2, 3, 4, 5, 6, 8, 0] rfl)
                  · replace hd := ite_f c62 hd
                    refine lv_iconst (v := 0) hx hb dL_law_438 (by decide) ?_
                    refine lv_istore (lv' := [(9, .int (0 : Int32)), (0, .ref b), (1, .ref (ad 0)), (2, .ref aq), (3, .ref ab), (4, .ref am), (5, .int y5_40), (6, .int q3), (7, .int q4), (8, .int q5)]) hx hb dL_law_439 hl (by decide) rfl (fun ls hl => ?_)
                    obtain ⟨q89, hq89, hd⟩ := bnd_some hd
                    have Kq89 : ∀ (H : Heap) (locs : List Loc) (ls : Array Slot), va_P (dC, dI) vwCl ([(aq, .inl (cI, 5, .inl q_40)), (ab, .inl (cI, 48, .inl bl_40)), (am, .inl (cL, 64, .inr (.inl q89.1)))] ++ mod cI cC cT cL ad fr q89.2.1 R_40 P q89.2.2 S B_40) H → va_D A ([(aq, .inl (cI, 5, .inl q_40)), (ab, .inl (cI, 48, .inl bl_40)), (am, .inl (cL, 64, .inr (.inl q89.1)))] ++ mod cI cC cT cL ad fr q89.2.1 R_40 P q89.2.2 S B_40) → va_S A s.heap H locs → lv_has ls 14 [(0, .ref b), (1, .ref (ad 0)), (2, .ref aq), (3, .ref ab), (4, .ref am), (5, .int y5_40), (7, .int q4)] → W p l e room_1 s m #[Value.ref b] below meth c H locs 99 67507 Q (F0 m 508 ls []) := by
                      intro H locs ls hP hD hS hl
                      refine lv_goto (tgt := 730) hx hb dL_law_508 (by decide) ?_
                      cases hd
                      exact Kq6 _ _ _ hP hD hS (lv_sub hl [0, 1, 2, 3, 4, 5, 6] rfl)
                    clear hd
                    have KL97 : ∀ (fu : Nat) (y9_441 : Int32) (me_441 : (Nat → Int64)) (T_441 : TV) (Y_441 : HV) (hd : den_L_law_L441 q_40 q4 fu y9_441 me_441 T_441 Y_441 = some q89) (H : Heap) (locs : List Loc) (ls : Array Slot), va_P (dC, dI) vwCl ([(aq, .inl (cI, 5, .inl q_40)), (ab, .inl (cI, 48, .inl bl_40)), (am, .inl (cL, 64, .inr (.inl me_441)))] ++ mod cI cC cT cL ad fr T_441 R_40 P Y_441 S B_40) H → va_D A ([(aq, .inl (cI, 5, .inl q_40)), (ab, .inl (cI, 48, .inl bl_40)), (am, .inl (cL, 64, .inr (.inl me_441)))] ++ mod cI cC cT cL ad fr T_441 R_40 P Y_441 S B_40) → va_S A s.heap H locs → lv_has ls 14 [(0, .ref b), (1, .ref (ad 0)), (2, .ref aq), (3, .ref ab), (4, .ref am), (5, .int y5_40), (7, .int q4), (9, .int y9_441)] → W p l e room_1 s m #[Value.ref b] below meth c H locs 99 67507 Q (F0 m 441 ls []) := by
                      intro fu
                      induction fu with
                      | zero => intro y9_441 me_441 T_441 Y_441 hd; exact no_some hd
                      | succ fu ih =>
                        intro y9_441 me_441 T_441 Y_441 hd H locs ls hP hD hS hl
                        rw [den_L_law_L441] at hd
                        refine lv_iload hx hb dL_law_441 (lv_at hl 7 rfl) ?_
                        refine lv_iconst (v := 2) hx hb dL_law_443 (by decide) ?_
                        refine lv_icmp_ge (tgt := 508) hx hb dL_law_444 (by decide) (fun c90 => ?_) (fun c90 => ?_)
                        · replace hd := ite_t c90 hd
                          cases hd
                          exact Kq89 _ _ _ hP hD hS (lv_sub hl [0, 1, 2, 3, 4, 5, 6] rfl)
                        · replace hd := ite_f c90 hd
                          refine lv_iload hx hb dL_law_447 (lv_at hl 6 rfl) ?_
                          refine lv_iconst (v := 5) hx hb dL_law_449 (by decide) ?_
                          refine lv_iload hx hb dL_law_450 (lv_at hl 7 rfl) ?_
                          refine lv_imul hx hb dL_law_452 ?_
                          refine lv_ishr hx hb dL_law_453 ?_
                          refine lv_aload_n hx hb dL_law_454 rfl (lv_at hl 2 rfl) ?_
                          refine lv_iconst (v := 4) hx hb dL_law_455 (by decide) ?_
                          refine x_iald (k := 4) hx hb hK hP 0 0 rfl rfl (inb_in (by decide)) rfl dL_law_456 ?_
                          obtain ⟨q91, hq91, hd⟩ := bnd_some hd
                          have hPc : va_P (dC, dI) vwCl [] _ := hP.sub [] rfl
                          have hDc := hD.sub (ws' := []) [] (by decide) rfl
                          have hFc := va_free (wc := []) hD hS hA [] rfl
                          refine va_calli (va_runS (As := [.int (q4 >>> (((5 : Int32) * y9_441) &&& 31)), .int (q_40 4)]) (rest := []) ⟨hx, hb, hml, hown, hts⟩ (c_L_low l dC dI cI cC cT cL H.size (q4 >>> (((5 : Int32) * y9_441) &&& 31)) (q_40 4) q91 hq91) (va_cwS 2 hts gL_law_L_low rfl rfl rfl hp_L_low ⟨Nat.le_of_ble_eq_true rfl, Nat.le_of_ble_eq_true rfl⟩) ⟨preB_fb, fun U hU hW => preB_mk hU hW hPc hK hDc hN⟩ rfl rfl hl.1 rfl (lv_room (Nat.le_of_ble_eq_true rfl)) dL_law_457 ⟨Nat.le_of_ble_eq_true rfl, Nat.le_of_ble_eq_true rfl⟩) hS (fun q _ h => hFc q h) hFc (fun r_ u_ t H locs ht hvm hw hB hz1 hk1 hS => ?_)
                          have hw : r_ = q91 := hw
                          have hw := hw.symm
                          subst hw
                          obtain ⟨hP, hD⟩ := x_joinL (r' := [(aq, .inl (cI, 5, .inl q_40)), (ab, .inl (cI, 48, .inl bl_40)), (am, .inl (cL, 64, .inr (.inl me_441)))]) hP hD [] [0, 1, 2] rfl rfl (by decide) (by decide) hk1 hFc ht hB [0, 1, 2] (by decide) rfl rfl
                          clear hPc hDc hFc hk1 hB ht hz1 hvm
                          refine lv_istore (lv' := [(10, .int q91), (0, .ref b), (1, .ref (ad 0)), (2, .ref aq), (3, .ref ab), (4, .ref am), (5, .int y5_40), (7, .int q4), (9, .int y9_441)]) hx hb dL_law_460 hl (by decide) rfl (fun ls hl => ?_)
                          refine lv_iload hx hb dL_law_462 (lv_at hl 0 rfl) ?_
                          refine lv_iload hx hb dL_law_464 (lv_at hl 0 rfl) ?_
                          refine lv_aload hx hb dL_law_466 (lv_at hl 5 rfl) ?_
                          obtain ⟨q92, hq92, hd⟩ := bnd_some hd
                          have hPc : va_P (dC, dI) vwCl [(am, .inl (cL, 64, .inr (.inl me_441)))] _ := hP.sub [2] rfl
                          have hDc := hD.sub (ws' := [(am, .inl (cL, 64, .inr (.inl me_441)))]) [2] (by decide) rfl
                          have hFc := va_free (wc := [(am, .inl (cL, 64, .inr (.inl me_441)))]) hD hS hA [2] rfl
                          refine va_calli (va_runS (As := [.int q91, .ref am]) (rest := [.int q91]) ⟨hx, hb, hml, hown, hts⟩ (c_L_mem l dC dI cI cC cT cL am 64 H.size me_441 q91 q92 hq92) (va_cwS 2 hts gL_law_L_mem rfl rfl rfl hp_L_mem ⟨Nat.le_of_ble_eq_true rfl, Nat.le_of_ble_eq_true rfl⟩) ⟨preB_fb, fun U hU hW => preB_mk hU hW hPc hK hDc hN⟩ rfl rfl hl.1 rfl (lv_room (Nat.le_of_ble_eq_true rfl)) dL_law_468 ⟨Nat.le_of_ble_eq_true rfl, Nat.le_of_ble_eq_true rfl⟩) hS (fun q _ h => hFc q h) hFc (fun r_ u_ t H locs ht hvm hw hB hz1 hk1 hS => ?_)
                          have hw : r_ = q92 := hw
                          have hw := hw.symm
                          subst hw
                          obtain ⟨hP, hD⟩ := x_joinL (r' := [(aq, .inl (cI, 5, .inl q_40)), (ab, .inl (cI, 48, .inl bl_40)), (am, .inl (cL, 64, .inr (.inl me_441)))]) hP hD [2] [0, 1] rfl rfl (by decide) (by decide) hk1 hFc ht hB [0, 1, 2] (by decide) rfl rfl
                          clear hPc hDc hFc hk1 hB ht hz1 hvm
                          refine lv_sipush (v := 128) hx hb dL_law_471 (by decide) ?_
                          refine lv_ixor hx hb dL_law_474 ?_
                          refine lv_aload hx hb dL_law_475 (lv_at hl 5 rfl) ?_
                          obtain ⟨q93, hq93, hd⟩ := bnd_some hd
                          have hPc : va_P (dC, dI) vwCl [(am, .inl (cL, 64, .inr (.inl me_441)))] _ := hP.sub [2] rfl
                          have hDc := hD.sub (ws' := [(am, .inl (cL, 64, .inr (.inl me_441)))]) [2] (by decide) rfl
                          have hFc := va_free (wc := [(am, .inl (cL, 64, .inr (.inl me_441)))]) hD hS hA [2] rfl
                          refine va_callv (va_runS (As := [.int q91, .int (q92 ^^^ (128 : Int32)), .ref am]) (rest := []) ⟨hx, hb, hml, hown, hts⟩ (c_L_lay l dC dI cI cC cT cL am 64 H.size me_441 q91 (q92 ^^^ (128 : Int32)) q93 hq93) (va_cwS 3 hts gL_law_L_lay rfl rfl rfl hp_L_lay ⟨Nat.le_of_ble_eq_true rfl, Nat.le_of_ble_eq_true rfl⟩) ⟨preB_fb, fun U hU hW => preB_mk hU hW hPc hK hDc hN⟩ rfl rfl hl.1 rfl (lv_room (Nat.le_of_ble_eq_true rfl)) dL_law_477 ⟨Nat.le_of_ble_eq_true rfl, Nat.le_of_ble_eq_true rfl⟩) hS (fun q _ h => hFc q h) hFc (fun u_ t H locs ht hvm hw hB hz1 hk1 hS => ?_)
                          obtain ⟨hP, hD⟩ := x_joinL (r' := [(aq, .inl (cI, 5, .inl q_40)), (ab, .inl (cI, 48, .inl bl_40)), (am, .inl (cL, 64, .inr (.inl q93)))]) hP hD [2] [0, 1] rfl rfl (by decide) (by decide) hk1 hFc ht hB [0, 1, 2] (by decide) rfl rfl
                          clear hPc hDc hFc hk1 hB ht hz1 hvm
                          refine lv_aload_n hx hb dL_law_480 rfl (lv_at hl 2 rfl) ?_
                          refine lv_iload hx hb dL_law_481 (lv_at hl 0 rfl) ?_
                          obtain ⟨q94, hq94, hd⟩ := bnd_some hd
                          have hPc := P_r hP
                          have hDc := D_r hD
                          have hFc := F_r hD hS hA
                          refine va_calli (va_runV (As := [.int q91]) (rest := []) ⟨hx, hb, hml, hown, hts⟩ (w_spoil l dC dI cI cC cT cL ad fr hfr0 hfr1 hfr2 hfr3 hfr4 hfr5 H.size T_441 R_40 P Y_441 S B_40 q91 q94 hq94) (cwV 1 hts gL_law_X6_spoil rfl rfl rfl hv_X6_spoil ⟨Nat.le_of_ble_eq_true rfl, Nat.le_of_ble_eq_true rfl⟩) ⟨preB_fb, va_recv hK hPc (ci := 6) (q0 := 0) rfl rfl, fun U hU hW => preB_mk hU hW hPc hK hDc hN⟩ rfl rfl hl.1 rfl (lv_room (Nat.le_of_ble_eq_true rfl)) dL_law_483 ⟨Nat.le_of_ble_eq_true rfl, Nat.le_of_ble_eq_true rfl⟩) hS (fun q _ h => hFc q h) hFc (fun r_ u_ t H locs ht hvm hw hB hz1 hk1 hS => ?_)
                          have hw : r_ = q94.1 := hw
                          have hw := hw.symm
                          subst hw
                          obtain ⟨hP, hD⟩ := x_joinR hP hD hk1 hFc ht hB
                          clear hPc hDc hFc hk1 hB ht hz1 hvm
                          refine lv_iload hx hb dL_law_486 (lv_at hl 0 rfl) ?_
                          refine lv_aload hx hb dL_law_488 (lv_at hl 5 rfl) ?_
                          obtain ⟨q95, hq95, hd⟩ := bnd_some hd
                          have hPc : va_P (dC, dI) vwCl [(am, .inl (cL, 64, .inr (.inl q93)))] _ := hP.sub [2] rfl
                          have hDc := hD.sub (ws' := [(am, .inl (cL, 64, .inr (.inl q93)))]) [2] (by decide) rfl
                          have hFc := va_free (wc := [(am, .inl (cL, 64, .inr (.inl q93)))]) hD hS hA [2] rfl
                          refine va_calli (va_runS (As := [.int q91, .ref am]) (rest := [.int q94.1]) ⟨hx, hb, hml, hown, hts⟩ (c_L_mem l dC dI cI cC cT cL am 64 H.size q93 q91 q95 hq95) (va_cwS 2 hts gL_law_L_mem rfl rfl rfl hp_L_mem ⟨Nat.le_of_ble_eq_true rfl, Nat.le_of_ble_eq_true rfl⟩) ⟨preB_fb, fun U hU hW => preB_mk hU hW hPc hK hDc hN⟩ rfl rfl hl.1 rfl (lv_room (Nat.le_of_ble_eq_true rfl)) dL_law_490 ⟨Nat.le_of_ble_eq_true rfl, Nat.le_of_ble_eq_true rfl⟩) hS (fun q _ h => hFc q h) hFc (fun r_ u_ t H locs ht hvm hw hB hz1 hk1 hS => ?_)
                          have hw : r_ = q95 := hw
                          have hw := hw.symm
                          subst hw
                          obtain ⟨hP, hD⟩ := x_joinL (r' := [(aq, .inl (cI, 5, .inl q_40)), (ab, .inl (cI, 48, .inl bl_40)), (am, .inl (cL, 64, .inr (.inl q93)))]) hP hD [2] [0, 1] rfl rfl (by decide) (by decide) hk1 hFc ht hB [0, 1, 2] (by decide) rfl rfl
                          clear hPc hDc hFc hk1 hB ht hz1 hvm
                          refine lv_sipush (v := 128) hx hb dL_law_493 (by decide) ?_
                          refine lv_idiv hx hb dL_law_496 (by decide) ?_
                          refine lv_icmp_eq (tgt := 502) hx hb dL_law_497 (by decide) (fun c96 => ?_) (fun c96 => ?_)
                          · replace hd := ite_t c96 hd
                            refine lv_iinc (v := (y9_441 + (1 : Int32))) (lv' := [(9, .int (y9_441 + (1 : Int32))), (10, .int q91), (0, .ref b), (1, .ref (ad 0)), (2, .ref aq), (3, .ref ab), (4, .ref am), (5, .int y5_40), (7, .int q4)]) hx hb dL_law_502 hl (k := 8) rfl (by first | rfl | decide) (by decide) rfl (fun ls hl => ?_)
                            refine lv_goto (tgt := 441) hx hb dL_law_505 (by decide) ?_
                            exact ih (y9_441 + (1 : Int32)) q93 q94.2.1 q94.2.2 hd _ _ _ hP hD hS (lv_sub hl [2, 3, 4, 5, 6, 7, 8, 0] rfl)
                          · replace hd := ite_f c96 hd
                            refine lv_iconst (v := 0) hx hb dL_law_500 (by decide) ?_
                            exact no_some hd
                    exact KL97 FU (0 : Int32) me_40 T_40 Y_40 hq89 _ _ _ hP hD hS (lv_sub hl [1, 2, 3, 4, 5, 6, 8, 0] rfl)
                · replace hd := ite_t c61 hd
                  refine lv_aload_n hx hb dL_law_420 rfl (lv_at hl 1 rfl) ?_
                  refine lv_iconst (v := 0) hx hb dL_law_421 (by decide) ?_
                  obtain ⟨q98, hq98, hd⟩ := bnd_some hd
                  have hPc := P_r hP
                  have hDc := D_r hD
                  have hFc := F_r hD hS hA
                  refine va_calli (va_runV (As := [.int (0 : Int32)]) (rest := []) ⟨hx, hb, hml, hown, hts⟩ (w_spoil l dC dI cI cC cT cL ad fr hfr0 hfr1 hfr2 hfr3 hfr4 hfr5 H.size T_40 R_40 P Y_40 S B_40 (0 : Int32) q98 hq98) (cwV 1 hts gL_law_X6_spoil rfl rfl rfl hv_X6_spoil ⟨Nat.le_of_ble_eq_true rfl, Nat.le_of_ble_eq_true rfl⟩) ⟨preB_fb, va_recv hK hPc (ci := 6) (q0 := 0) rfl rfl, fun U hU hW => preB_mk hU hW hPc hK hDc hN⟩ rfl rfl hl.1 rfl (lv_room (Nat.le_of_ble_eq_true rfl)) dL_law_422 ⟨Nat.le_of_ble_eq_true rfl, Nat.le_of_ble_eq_true rfl⟩) hS (fun q _ h => hFc q h) hFc (fun r_ u_ t H locs ht hvm hw hB hz1 hk1 hS => ?_)
                  have hw : r_ = q98.1 := hw
                  have hw := hw.symm
                  subst hw
                  obtain ⟨hP, hD⟩ := x_joinR hP hD hk1 hFc ht hB
                  clear hPc hDc hFc hk1 hB ht hz1 hvm
                  refine lv_iconst (v := -1) hx hb dL_law_425 (by decide) ?_
                  refine lv_icmp_eq (tgt := 730) hx hb dL_law_426 (by decide) (fun c99 => ?_) (fun c99 => ?_)
                  · replace hd := ite_t c99 hd
                    cases hd
                    exact Kq6 _ _ _ hP hD hS (lv_sub hl [0, 1, 2, 3, 4, 5, 7] rfl)
                  · replace hd := ite_f c99 hd
                    refine lv_iconst (v := 0) hx hb dL_law_429 (by decide) ?_
                    exact no_some hd
              refine lv_icmp_ne (tgt := 414) hx hb dL_law_350 (by decide) (fun c100 => ?_) (fun c100 => ?_)
              · replace hd := ite_f c100 hd
                exact KJ60 () hd _ _ _ hP hD hS (lv_sub hl [1, 2, 3, 4, 5, 6, 7, 8, 0] rfl)
              · replace hd := ite_t c100 hd
                refine lv_iload hx hb dL_law_353 (lv_at hl 8 rfl) ?_
                refine lv_iconst (v := 3) hx hb dL_law_355 (by decide) ?_
                obtain ⟨q101, hq101, hd⟩ := bnd_some hd
                have hPc : va_P (dC, dI) vwCl [] _ := hP.sub [] rfl
                have hDc := hD.sub (ws' := []) [] (by decide) rfl
                have hFc := va_free (wc := []) hD hS hA [] rfl
                refine va_calli (va_runS (As := [.int q4, .int (3 : Int32)]) (rest := []) ⟨hx, hb, hml, hown, hts⟩ (c_L_low l dC dI cI cC cT cL H.size q4 (3 : Int32) q101 hq101) (va_cwS 2 hts gL_law_L_low rfl rfl rfl hp_L_low ⟨Nat.le_of_ble_eq_true rfl, Nat.le_of_ble_eq_true rfl⟩) ⟨preB_fb, fun U hU hW => preB_mk hU hW hPc hK hDc hN⟩ rfl rfl hl.1 rfl (lv_room (Nat.le_of_ble_eq_true rfl)) dL_law_356 ⟨Nat.le_of_ble_eq_true rfl, Nat.le_of_ble_eq_true rfl⟩) hS (fun q _ h => hFc q h) hFc (fun r_ u_ t H locs ht hvm hw hB hz1 hk1 hS => ?_)
                have hw : r_ = q101 := hw
                have hw := hw.symm
                subst hw
                obtain ⟨hP, hD⟩ := x_joinL (r' := [(aq, .inl (cI, 5, .inl q_40)), (ab, .inl (cI, 48, .inl bl_40)), (am, .inl (cL, 64, .inr (.inl me_40)))]) hP hD [] [0, 1, 2] rfl rfl (by decide) (by decide) hk1 hFc ht hB [0, 1, 2] (by decide) rfl rfl
                clear hPc hDc hFc hk1 hB ht hz1 hvm
                refine lv_if_ne (tgt := 414) hx hb dL_law_359 (by decide) (fun c102 => ?_) (fun c102 => ?_)
                · replace hd := ite_f c102 hd
                  exact KJ60 () hd _ _ _ hP hD hS (lv_sub hl [1, 2, 3, 4, 5, 6, 7, 8, 0] rfl)
                · replace hd := ite_t c102 hd
                  refine lv_aload_n hx hb dL_law_362 rfl (lv_at hl 2 rfl) ?_
                  obtain ⟨q103, hq103, hd⟩ := bnd_some hd
                  have hPc := P_r hP
                  have hDc := D_r hD
                  have hFc := F_r hD hS hA
                  refine va_calli (va_runV (As := []) (rest := []) ⟨hx, hb, hml, hown, hts⟩ (w_wipeLast l dC dI cI cC cT cL ad fr hfr0 hfr1 hfr2 hfr3 hfr4 hfr5 H.size T_40 R_40 P Y_40 S B_40 q103 hq103) (cwV 0 hts gL_law_X6_wipeLast rfl rfl rfl hv_X6_wipeLast ⟨Nat.le_of_ble_eq_true rfl, Nat.le_of_ble_eq_true rfl⟩) ⟨preB_fb, va_recv hK hPc (ci := 6) (q0 := 0) rfl rfl, fun U hU hW => preB_mk hU hW hPc hK hDc hN⟩ rfl rfl hl.1 rfl (lv_room (Nat.le_of_ble_eq_true rfl)) dL_law_363 ⟨Nat.le_of_ble_eq_true rfl, Nat.le_of_ble_eq_true rfl⟩) hS (fun q _ h => hFc q h) hFc (fun r_ u_ t H locs ht hvm hw hB hz1 hk1 hS => ?_)
                  have hw : r_ = q103.1 := hw
                  have hw := hw.symm
                  subst hw
                  obtain ⟨hP, hD⟩ := x_joinR hP hD hk1 hFc ht hB
                  clear hPc hDc hFc hk1 hB ht hz1 hvm
                  refine lv_aload_n hx hb dL_law_366 rfl (lv_at hl 3 rfl) ?_
                  refine lv_iconst (v := 3) hx hb dL_law_367 (by decide) ?_
                  refine x_iald (k := 3) hx hb hK hP 0 0 rfl rfl (inb_in (by decide)) rfl dL_law_368 ?_
                  obtain ⟨q104, hq104, hd⟩ := bnd_some hd
                  have Kq104 : ∀ (H : Heap) (locs : List Loc) (ls : Array Slot), va_P (dC, dI) vwCl ([(aq, .inl (cI, 5, .inl q_40)), (ab, .inl (cI, 48, .inl bl_40)), (am, .inl (cL, 64, .inr (.inl me_40)))] ++ mod cI cC cT cL ad fr q103.2.1 R_40 P q103.2.2 S B_40) H → va_D A ([(aq, .inl (cI, 5, .inl q_40)), (ab, .inl (cI, 48, .inl bl_40)), (am, .inl (cL, 64, .inr (.inl me_40)))] ++ mod cI cC cT cL ad fr q103.2.1 R_40 P q103.2.2 S B_40) → va_S A s.heap H locs → lv_has ls 14 [(0, .ref b), (1, .ref (ad 0)), (2, .ref aq), (3, .ref ab), (4, .ref am), (5, .int y5_40), (7, .int q4)] → W p l e room_1 s m #[Value.ref b] below meth c H locs 99 67507 Q (F0 m 382 ls [.int q104, .int q103.1]) := by
                    intro H locs ls hP hD hS hl
                    refine lv_icmp_eq (tgt := 387) hx hb dL_law_382 (by decide) (fun c105 => ?_) (fun c105 => ?_)
                    · replace hd := ite_t c105 hd
                      refine lv_aload_n hx hb dL_law_387 rfl (lv_at hl 2 rfl) ?_
                      refine lv_iconst (v := 3) hx hb dL_law_388 (by decide) ?_
                      refine x_iald (k := 3) hx hb hK hP 0 0 rfl rfl (inb_in (by decide)) rfl dL_law_389 ?_
                      refine lv_if_le (tgt := 730) hx hb dL_law_390 (by decide) (fun c106 => ?_) (fun c106 => ?_)
                      · replace hd := ite_t c106 hd
                        cases hd
                        exact Kq6 _ _ _ hP hD hS (lv_sub hl [0, 1, 2, 3, 4, 5, 6] rfl)
                      · replace hd := ite_f c106 hd
                        refine lv_aload_n hx hb dL_law_393 rfl (lv_at hl 2 rfl) ?_
                        refine lv_iconst (v := 4) hx hb dL_law_394 (by decide) ?_
                        refine lv_aload_n hx hb dL_law_395 rfl (lv_at hl 3 rfl) ?_
                        refine lv_bipush (v := 8) hx hb dL_law_396 (by decide) ?_
                        refine lv_aload_n hx hb dL_law_398 rfl (lv_at hl 2 rfl) ?_
                        refine lv_iconst (v := 3) hx hb dL_law_399 (by decide) ?_
                        refine lv_dup2_11 hx hb dL_law_400 rfl rfl ?_
                        refine x_iald (k := 3) hx hb hK hP 0 0 rfl rfl (inb_in (by decide)) rfl dL_law_401 ?_
                        refine lv_iconst (v := 1) hx hb dL_law_402 (by decide) ?_
                        refine lv_isub hx hb dL_law_403 ?_
                        refine lv_dup_x2 hx hb dL_law_404 rfl rfl rfl ?_
                        refine x_iast (k := 3) hx hb hK hP hD hS 0 0 rfl rfl (inb_in (by decide)) rfl dL_law_405 (fun H locs hP hD hS => ?_)
                        have hP : va_P (dC, dI) vwCl ([(aq, .inl (cI, 5, .inl (upd q_40 3 ((q_40 3) - (1 : Int32))))), (ab, .inl (cI, 48, .inl bl_40)), (am, .inl (cL, 64, .inr (.inl me_40)))] ++ mod cI cC cT cL ad fr q103.2.1 R_40 P q103.2.2 S B_40) H := hP
                        have hD : va_D A ([(aq, .inl (cI, 5, .inl (upd q_40 3 ((q_40 3) - (1 : Int32))))), (ab, .inl (cI, 48, .inl bl_40)), (am, .inl (cL, 64, .inr (.inl me_40)))] ++ mod cI cC cT cL ad fr q103.2.1 R_40 P q103.2.2 S B_40) := hD
                        refine lv_imul hx hb dL_law_406 ?_
                        refine lv_iconst (v := 3) hx hb dL_law_407 (by decide) ?_
                        refine lv_iadd hx hb dL_law_408 ?_
                        obtain ⟨g107, hd⟩ := gd_some hd
                        refine x_iald (k := (((8 : Int32) * ((q_40 3) - (1 : Int32))) + (3 : Int32)).toNatClampNeg) hx hb hK hP 1 0 rfl rfl (inb_in g107) rfl dL_law_409 ?_
                        refine x_iast (k := 4) hx hb hK hP hD hS 0 0 rfl rfl (inb_in (by decide)) rfl dL_law_410 (fun H locs hP hD hS => ?_)
                        have hP : va_P (dC, dI) vwCl ([(aq, .inl (cI, 5, .inl (upd (upd q_40 3 ((q_40 3) - (1 : Int32))) 4 (bl_40 (((8 : Int32) * ((q_40 3) - (1 : Int32))) + (3 : Int32)).toNatClampNeg)))), (ab, .inl (cI, 48, .inl bl_40)), (am, .inl (cL, 64, .inr (.inl me_40)))] ++ mod cI cC cT cL ad fr q103.2.1 R_40 P q103.2.2 S B_40) H := hP
                        have hD : va_D A ([(aq, .inl (cI, 5, .inl (upd (upd q_40 3 ((q_40 3) - (1 : Int32))) 4 (bl_40 (((8 : Int32) * ((q_40 3) - (1 : Int32))) + (3 : Int32)).toNatClampNeg)))), (ab, .inl (cI, 48, .inl bl_40)), (am, .inl (cL, 64, .inr (.inl me_40)))] ++ mod cI cC cT cL ad fr q103.2.1 R_40 P q103.2.2 S B_40) := hD
                        refine lv_goto (tgt := 730) hx hb dL_law_411 (by decide) ?_
                        cases hd
                        exact Kq6 _ _ _ hP hD hS (lv_sub hl [0, 1, 2, 3, 4, 5, 6] rfl)
                    · replace hd := ite_f c105 hd
                      refine lv_iconst (v := 0) hx hb dL_law_385 (by decide) ?_
                      exact no_some hd
                  replace hd := hq104
                  clear hq104
                  refine lv_if_le (tgt := 380) hx hb dL_law_369 (by decide) (fun c108 => ?_) (fun c108 => ?_)
                  · replace hd := ite_t c108 hd
                    refine lv_bipush (v := -5) hx hb dL_law_380 (by decide) ?_
                    cases hd
                    exact Kq104 _ _ _ hP hD hS (lv_sub hl [1, 2, 3, 4, 5, 6, 8] rfl)
                  · replace hd := ite_f c108 hd
                    refine lv_aload_n hx hb dL_law_372 rfl (lv_at hl 3 rfl) ?_
                    refine lv_iconst (v := 3) hx hb dL_law_373 (by decide) ?_
                    refine x_iald (k := 3) hx hb hK hP 0 0 rfl rfl (inb_in (by decide)) rfl dL_law_374 ?_
                    refine lv_iconst (v := 1) hx hb dL_law_375 (by decide) ?_
                    refine lv_isub hx hb dL_law_376 ?_
                    refine lv_goto (tgt := 382) hx hb dL_law_377 (by decide) ?_
                    cases hd
                    exact Kq104 _ _ _ hP hD hS (lv_sub hl [1, 2, 3, 4, 5, 6, 8] rfl)
            · replace hd := ite_f c59 hd
              refine lv_bipush (v := 8) hx hb dL_law_101 (by decide) ?_
              refine lv_aload_n hx hb dL_law_103 rfl (lv_at hl 3 rfl) ?_
              refine lv_iconst (v := 3) hx hb dL_law_104 (by decide) ?_
              refine x_iald (k := 3) hx hb hK hP 0 0 rfl rfl (inb_in (by decide)) rfl dL_law_105 ?_
              refine lv_imul hx hb dL_law_106 ?_
              refine lv_istore (lv' := [(9, .int ((8 : Int32) * (q_40 3))), (8, .int q5), (0, .ref b), (1, .ref (ad 0)), (2, .ref aq), (3, .ref ab), (4, .ref am), (5, .int y5_40), (6, .int q3), (7, .int q4)]) hx hb dL_law_107 hl (by decide) rfl (fun ls hl => ?_)
              refine lv_iconst (v := 1) hx hb dL_law_109 (by decide) ?_
              refine lv_iload hx hb dL_law_110 (lv_at hl 9 rfl) ?_
              refine lv_iconst (v := 3) hx hb dL_law_112 (by decide) ?_
              obtain ⟨q109, hq109, hd⟩ := bnd_some hd
              have hPc : va_P (dC, dI) vwCl [] _ := hP.sub [] rfl
              have hDc := hD.sub (ws' := []) [] (by decide) rfl
              have hFc := va_free (wc := []) hD hS hA [] rfl
              refine va_calli (va_runS (As := [.int q4, .int (3 : Int32)]) (rest := [.int (1 : Int32)]) ⟨hx, hb, hml, hown, hts⟩ (c_L_low l dC dI cI cC cT cL H.size q4 (3 : Int32) q109 hq109) (va_cwS 2 hts gL_law_L_low rfl rfl rfl hp_L_low ⟨Nat.le_of_ble_eq_true rfl, Nat.le_of_ble_eq_true rfl⟩) ⟨preB_fb, fun U hU hW => preB_mk hU hW hPc hK hDc hN⟩ rfl rfl hl.1 rfl (lv_room (Nat.le_of_ble_eq_true rfl)) dL_law_113 ⟨Nat.le_of_ble_eq_true rfl, Nat.le_of_ble_eq_true rfl⟩) hS (fun q _ h => hFc q h) hFc (fun r_ u_ t H locs ht hvm hw hB hz1 hk1 hS => ?_)
              have hw : r_ = q109 := hw
              have hw := hw.symm
              subst hw
              obtain ⟨hP, hD⟩ := x_joinL (r' := [(aq, .inl (cI, 5, .inl q_40)), (ab, .inl (cI, 48, .inl bl_40)), (am, .inl (cL, 64, .inr (.inl me_40)))]) hP hD [] [0, 1, 2] rfl rfl (by decide) (by decide) hk1 hFc ht hB [0, 1, 2] (by decide) rfl rfl
              clear hPc hDc hFc hk1 hB ht hz1 hvm
              refine lv_iadd hx hb dL_law_116 ?_
              refine lv_istore (lv' := [(10, .int ((1 : Int32) + q109)), (9, .int ((8 : Int32) * (q_40 3))), (8, .int q5), (0, .ref b), (1, .ref (ad 0)), (2, .ref aq), (3, .ref ab), (4, .ref am), (5, .int y5_40), (6, .int q3), (7, .int q4)]) hx hb dL_law_117 hl (by decide) rfl (fun ls hl => ?_)
              refine lv_iload hx hb dL_law_119 (lv_at hl 10 rfl) ?_
              refine lv_i2l (v := (q4).toInt64) hx hb dL_law_121 rfl ?_
              refine lv_bipush (v := 20) hx hb dL_law_122 (by decide) ?_
              refine lv_lshl (v := (((q4).toInt64) <<< (((20 : Int32)).toInt64 &&& 63))) hx hb dL_law_124 rfl ?_
              refine lv_iload hx hb dL_law_125 (lv_at hl 9 rfl) ?_
              refine lv_i2l (v := (q3).toInt64) hx hb dL_law_127 rfl ?_
              refine lv_lxor hx hb dL_law_128 ?_
              refine lv_topl (fun x110 ex110 => ?_)
              replace hd := nm_some ex110 hd
              refine lv_lstore (lv' := [(11, .long x110), (10, .int ((1 : Int32) + q109)), (9, .int ((8 : Int32) * (q_40 3))), (8, .int q5), (0, .ref b), (1, .ref (ad 0)), (2, .ref aq), (3, .ref ab), (4, .ref am), (5, .int y5_40), (6, .int q3), (7, .int q4)]) hx hb dL_law_129 hl (by decide) rfl (fun ls hl => ?_)
              refine lv_aload_n hx hb dL_law_131 rfl (lv_at hl 7 rfl) ?_
              refine lv_iload hx hb dL_law_132 (lv_at hl 2 rfl) ?_
              refine lv_iload hx hb dL_law_134 (lv_at hl 10 rfl) ?_
              refine lv_iconst (v := 4) hx hb dL_law_136 (by decide) ?_
              refine lv_ishr hx hb dL_law_137 ?_
              refine lv_bipush (v := 100) hx hb dL_law_138 (by decide) ?_
              obtain ⟨q111, hq111, hd⟩ := bnd_some hd
              have hPc : va_P (dC, dI) vwCl [] _ := hP.sub [] rfl
              have hDc := hD.sub (ws' := []) [] (by decide) rfl
              have hFc := va_free (wc := []) hD hS hA [] rfl
              refine va_calli (va_runS (As := [.int (q3 >>> ((4 : Int32) &&& 31)), .int (100 : Int32)]) (rest := [.int ((8 : Int32) * (q_40 3)), .ref ab]) ⟨hx, hb, hml, hown, hts⟩ (c_L_low l dC dI cI cC cT cL H.size (q3 >>> ((4 : Int32) &&& 31)) (100 : Int32) q111 hq111) (va_cwS 2 hts gL_law_L_low rfl rfl rfl hp_L_low ⟨Nat.le_of_ble_eq_true rfl, Nat.le_of_ble_eq_true rfl⟩) ⟨preB_fb, fun U hU hW => preB_mk hU hW hPc hK hDc hN⟩ rfl rfl hl.1 rfl (lv_room (Nat.le_of_ble_eq_true rfl)) dL_law_140 ⟨Nat.le_of_ble_eq_true rfl, Nat.le_of_ble_eq_true rfl⟩) hS (fun q _ h => hFc q h) hFc (fun r_ u_ t H locs ht hvm hw hB hz1 hk1 hS => ?_)
              have hw : r_ = q111 := hw
              have hw := hw.symm
              subst hw
              obtain ⟨hP, hD⟩ := x_joinL (r' := [(aq, .inl (cI, 5, .inl q_40)), (ab, .inl (cI, 48, .inl bl_40)), (am, .inl (cL, 64, .inr (.inl me_40)))]) hP hD [] [0, 1, 2] rfl rfl (by decide) (by decide) hk1 hFc ht hB [0, 1, 2] (by decide) rfl rfl
              clear hPc hDc hFc hk1 hB ht hz1 hvm
              obtain ⟨g112, hd⟩ := gd_some hd
              refine x_iast (k := ((8 : Int32) * (q_40 3)).toNatClampNeg) hx hb hK hP hD hS 1 0 rfl rfl (inb_in g112) rfl dL_law_143 (fun H locs hP hD hS => ?_)
              have hP : va_P (dC, dI) vwCl ([(aq, .inl (cI, 5, .inl q_40)), (ab, .inl (cI, 48, .inl (upd bl_40 ((8 : Int32) * (q_40 3)).toNatClampNeg q111))), (am, .inl (cL, 64, .inr (.inl me_40)))] ++ mod cI cC cT cL ad fr T_40 R_40 P Y_40 S B_40) H := hP
              have hD : va_D A ([(aq, .inl (cI, 5, .inl q_40)), (ab, .inl (cI, 48, .inl (upd bl_40 ((8 : Int32) * (q_40 3)).toNatClampNeg q111))), (am, .inl (cL, 64, .inr (.inl me_40)))] ++ mod cI cC cT cL ad fr T_40 R_40 P Y_40 S B_40) := hD
              refine lv_aload_n hx hb dL_law_144 rfl (lv_at hl 7 rfl) ?_
              refine lv_iload hx hb dL_law_145 (lv_at hl 2 rfl) ?_
              refine lv_iconst (v := 1) hx hb dL_law_147 (by decide) ?_
              refine lv_iadd hx hb dL_law_148 ?_
              refine lv_aload_n hx hb dL_law_149 rfl (lv_at hl 6 rfl) ?_
              refine lv_iconst (v := 3) hx hb dL_law_150 (by decide) ?_
              refine x_iald (k := 3) hx hb hK hP 0 0 rfl rfl (inb_in (by decide)) rfl dL_law_151 ?_
              obtain ⟨q113, hq113, hd⟩ := bnd_some hd
              have Kq113 : ∀ (H : Heap) (locs : List Loc) (ls : Array Slot), va_P (dC, dI) vwCl ([(aq, .inl (cI, 5, .inl q_40)), (ab, .inl (cI, 48, .inl (upd bl_40 ((8 : Int32) * (q_40 3)).toNatClampNeg q111))), (am, .inl (cL, 64, .inr (.inl me_40)))] ++ mod cI cC cT cL ad fr T_40 R_40 P Y_40 S B_40) H → va_D A ([(aq, .inl (cI, 5, .inl q_40)), (ab, .inl (cI, 48, .inl (upd bl_40 ((8 : Int32) * (q_40 3)).toNatClampNeg q111))), (am, .inl (cL, 64, .inr (.inl me_40)))] ++ mod cI cC cT cL ad fr T_40 R_40 P Y_40 S B_40) → va_S A s.heap H locs → lv_has ls 14 [(0, .ref b), (1, .ref (ad 0)), (2, .ref aq), (3, .ref ab), (4, .ref am), (5, .int y5_40), (7, .int q4), (9, .int ((8 : Int32) * (q_40 3))), (10, .int ((1 : Int32) + q109)), (11, .long x110)] → W p l e room_1 s m #[Value.ref b] below meth c H locs 99 67507 Q (F0 m 182 ls [.int q113, .int (((8 : Int32) * (q_40 3)) + (1 : Int32)), .ref ab]) := by
                intro H locs ls hP hD hS hl
                obtain ⟨g114, hd⟩ := gd_some hd
                refine x_iast (k := (((8 : Int32) * (q_40 3)) + (1 : Int32)).toNatClampNeg) hx hb hK hP hD hS 1 0 rfl rfl (inb_in g114) rfl dL_law_182 (fun H locs hP hD hS => ?_)
                have hP : va_P (dC, dI) vwCl ([(aq, .inl (cI, 5, .inl q_40)), (ab, .inl (cI, 48, .inl (upd (upd bl_40 ((8 : Int32) * (q_40 3)).toNatClampNeg q111) (((8 : Int32) * (q_40 3)) + (1 : Int32)).toNatClampNeg q113))), (am, .inl (cL, 64, .inr (.inl me_40)))] ++ mod cI cC cT cL ad fr T_40 R_40 P Y_40 S B_40) H := hP
                have hD : va_D A ([(aq, .inl (cI, 5, .inl q_40)), (ab, .inl (cI, 48, .inl (upd (upd bl_40 ((8 : Int32) * (q_40 3)).toNatClampNeg q111) (((8 : Int32) * (q_40 3)) + (1 : Int32)).toNatClampNeg q113))), (am, .inl (cL, 64, .inr (.inl me_40)))] ++ mod cI cC cT cL ad fr T_40 R_40 P Y_40 S B_40) := hD
                refine lv_aload_n hx hb dL_law_183 rfl (lv_at hl 3 rfl) ?_
                refine lv_iload hx hb dL_law_184 (lv_at hl 7 rfl) ?_
                refine lv_iconst (v := 2) hx hb dL_law_186 (by decide) ?_
                refine lv_iadd hx hb dL_law_187 ?_
                refine lv_iload hx hb dL_law_188 (lv_at hl 8 rfl) ?_
                obtain ⟨g115, hd⟩ := gd_some hd
                refine x_iast (k := (((8 : Int32) * (q_40 3)) + (2 : Int32)).toNatClampNeg) hx hb hK hP hD hS 1 0 rfl rfl (inb_in g115) rfl dL_law_190 (fun H locs hP hD hS => ?_)
                have hP : va_P (dC, dI) vwCl ([(aq, .inl (cI, 5, .inl q_40)), (ab, .inl (cI, 48, .inl (upd (upd (upd bl_40 ((8 : Int32) * (q_40 3)).toNatClampNeg q111) (((8 : Int32) * (q_40 3)) + (1 : Int32)).toNatClampNeg q113) (((8 : Int32) * (q_40 3)) + (2 : Int32)).toNatClampNeg ((1 : Int32) + q109)))), (am, .inl (cL, 64, .inr (.inl me_40)))] ++ mod cI cC cT cL ad fr T_40 R_40 P Y_40 S B_40) H := hP
                have hD : va_D A ([(aq, .inl (cI, 5, .inl q_40)), (ab, .inl (cI, 48, .inl (upd (upd (upd bl_40 ((8 : Int32) * (q_40 3)).toNatClampNeg q111) (((8 : Int32) * (q_40 3)) + (1 : Int32)).toNatClampNeg q113) (((8 : Int32) * (q_40 3)) + (2 : Int32)).toNatClampNeg ((1 : Int32) + q109)))), (am, .inl (cL, 64, .inr (.inl me_40)))] ++ mod cI cC cT cL ad fr T_40 R_40 P Y_40 S B_40) := hD
                refine lv_aload_n hx hb dL_law_191 rfl (lv_at hl 3 rfl) ?_
                refine lv_iload hx hb dL_law_192 (lv_at hl 7 rfl) ?_
                refine lv_iconst (v := 3) hx hb dL_law_194 (by decide) ?_
                refine lv_iadd hx hb dL_law_195 ?_
                refine lv_aload_n hx hb dL_law_196 rfl (lv_at hl 2 rfl) ?_
                refine lv_iconst (v := 4) hx hb dL_law_197 (by decide) ?_
                refine x_iald (k := 4) hx hb hK hP 0 0 rfl rfl (inb_in (by decide)) rfl dL_law_198 ?_
                obtain ⟨g116, hd⟩ := gd_some hd
                refine x_iast (k := (((8 : Int32) * (q_40 3)) + (3 : Int32)).toNatClampNeg) hx hb hK hP hD hS 1 0 rfl rfl (inb_in g116) rfl dL_law_199 (fun H locs hP hD hS => ?_)
                have hP : va_P (dC, dI) vwCl ([(aq, .inl (cI, 5, .inl q_40)), (ab, .inl (cI, 48, .inl (upd (upd (upd (upd bl_40 ((8 : Int32) * (q_40 3)).toNatClampNeg q111) (((8 : Int32) * (q_40 3)) + (1 : Int32)).toNatClampNeg q113) (((8 : Int32) * (q_40 3)) + (2 : Int32)).toNatClampNeg ((1 : Int32) + q109)) (((8 : Int32) * (q_40 3)) + (3 : Int32)).toNatClampNeg (q_40 4)))), (am, .inl (cL, 64, .inr (.inl me_40)))] ++ mod cI cC cT cL ad fr T_40 R_40 P Y_40 S B_40) H := hP
                have hD : va_D A ([(aq, .inl (cI, 5, .inl q_40)), (ab, .inl (cI, 48, .inl (upd (upd (upd (upd bl_40 ((8 : Int32) * (q_40 3)).toNatClampNeg q111) (((8 : Int32) * (q_40 3)) + (1 : Int32)).toNatClampNeg q113) (((8 : Int32) * (q_40 3)) + (2 : Int32)).toNatClampNeg ((1 : Int32) + q109)) (((8 : Int32) * (q_40 3)) + (3 : Int32)).toNatClampNeg (q_40 4)))), (am, .inl (cL, 64, .inr (.inl me_40)))] ++ mod cI cC cT cL ad fr T_40 R_40 P Y_40 S B_40) := hD
                refine lv_iconst (v := 0) hx hb dL_law_200 (by decide) ?_
                refine lv_istore (lv' := [(13, .int (0 : Int32)), (0, .ref b), (1, .ref (ad 0)), (2, .ref aq), (3, .ref ab), (4, .ref am), (5, .int y5_40), (7, .int q4), (9, .int ((8 : Int32) * (q_40 3))), (10, .int ((1 : Int32) + q109)), (11, .long x110)]) hx hb dL_law_201 hl (by decide) rfl (fun ls hl => ?_)
                obtain ⟨q117, hq117, hd⟩ := bnd_some hd
                have Kq117 : ∀ (H : Heap) (locs : List Loc) (ls : Array Slot), va_P (dC, dI) vwCl ([(aq, .inl (cI, 5, .inl q_40)), (ab, .inl (cI, 48, .inl q117)), (am, .inl (cL, 64, .inr (.inl me_40)))] ++ mod cI cC cT cL ad fr T_40 R_40 P Y_40 S B_40) H → va_D A ([(aq, .inl (cI, 5, .inl q_40)), (ab, .inl (cI, 48, .inl q117)), (am, .inl (cL, 64, .inr (.inl me_40)))] ++ mod cI cC cT cL ad fr T_40 R_40 P Y_40 S B_40) → va_S A s.heap H locs → lv_has ls 14 [(0, .ref b), (1, .ref (ad 0)), (2, .ref aq), (3, .ref ab), (4, .ref am), (5, .int y5_40), (7, .int q4), (9, .int ((8 : Int32) * (q_40 3))), (10, .int ((1 : Int32) + q109)), (11, .long x110)] → W p l e room_1 s m #[Value.ref b] below meth c H locs 99 67507 Q (F0 m 248 ls []) := by
                  intro H locs ls hP hD hS hl
                  refine lv_aload_n hx hb dL_law_248 rfl (lv_at hl 3 rfl) ?_
                  refine lv_iload hx hb dL_law_249 (lv_at hl 7 rfl) ?_
                  refine lv_bipush (v := 11) hx hb dL_law_251 (by decide) ?_
                  refine lv_iadd hx hb dL_law_253 ?_
                  refine lv_aload_n hx hb dL_law_254 rfl (lv_at hl 2 rfl) ?_
                  refine lv_iconst (v := 4) hx hb dL_law_255 (by decide) ?_
                  refine x_iald (k := 4) hx hb hK hP 0 0 rfl rfl (inb_in (by decide)) rfl dL_law_256 ?_
                  refine lv_iconst (v := 2) hx hb dL_law_257 (by decide) ?_
                  refine lv_aload_n hx hb dL_law_258 rfl (lv_at hl 2 rfl) ?_
                  refine lv_iconst (v := 3) hx hb dL_law_259 (by decide) ?_
                  refine x_iald (k := 3) hx hb hK hP 0 0 rfl rfl (inb_in (by decide)) rfl dL_law_260 ?_
                  refine lv_aload_n hx hb dL_law_261 rfl (lv_at hl 3 rfl) ?_
                  obtain ⟨q118, hq118, hd⟩ := bnd_some hd
                  have hPc : va_P (dC, dI) vwCl [(ab, .inl (cI, 48, .inl q117))] _ := hP.sub [1] rfl
                  have hDc := hD.sub (ws' := [(ab, .inl (cI, 48, .inl q117))]) [1] (by decide) rfl
                  have hFc := va_free (wc := [(ab, .inl (cI, 48, .inl q117))]) hD hS hA [1] rfl
                  refine va_calli (va_runS (As := [.int (q_40 3), .ref ab]) (rest := [.int (2 : Int32), .int (q_40 4), .int (((8 : Int32) * (q_40 3)) + (11 : Int32)), .ref ab]) ⟨hx, hb, hml, hown, hts⟩ (c_L_size l dC dI cI cC cT cL ab 48 H.size q117 (q_40 3) q118 hq118) (va_cwS 2 hts gL_law_L_size rfl rfl rfl hp_L_size ⟨Nat.le_of_ble_eq_true rfl, Nat.le_of_ble_eq_true rfl⟩) ⟨preB_fb, fun U hU hW => preB_mk hU hW hPc hK hDc hN⟩ rfl rfl hl.1 rfl (lv_room (Nat.le_of_ble_eq_true rfl)) dL_law_262 ⟨Nat.le_of_ble_eq_true rfl, Nat.le_of_ble_eq_true rfl⟩) hS (fun q _ h => hFc q h) hFc (fun r_ u_ t H locs ht hvm hw hB hz1 hk1 hS => ?_)
                  have hw : r_ = q118 := hw
                  have hw := hw.symm
                  subst hw
                  obtain ⟨hP, hD⟩ := x_joinL (r' := [(aq, .inl (cI, 5, .inl q_40)), (ab, .inl (cI, 48, .inl q117)), (am, .inl (cL, 64, .inr (.inl me_40)))]) hP hD [1] [0, 2] rfl rfl (by decide) (by decide) hk1 hFc ht hB [0, 2, 1] (by decide) rfl rfl
                  clear hPc hDc hFc hk1 hB ht hz1 hvm
                  refine lv_imul hx hb dL_law_265 ?_
                  refine lv_iadd hx hb dL_law_266 ?_
                  refine lv_iconst (v := 2) hx hb dL_law_267 (by decide) ?_
                  refine lv_iadd hx hb dL_law_268 ?_
                  obtain ⟨g119, hd⟩ := gd_some hd
                  refine x_iast (k := (((8 : Int32) * (q_40 3)) + (11 : Int32)).toNatClampNeg) hx hb hK hP hD hS 1 0 rfl rfl (inb_in g119) rfl dL_law_269 (fun H locs hP hD hS => ?_)
                  have hP : va_P (dC, dI) vwCl ([(aq, .inl (cI, 5, .inl q_40)), (ab, .inl (cI, 48, .inl (upd q117 (((8 : Int32) * (q_40 3)) + (11 : Int32)).toNatClampNeg (((q_40 4) + ((2 : Int32) * q118)) + (2 : Int32))))), (am, .inl (cL, 64, .inr (.inl me_40)))] ++ mod cI cC cT cL ad fr T_40 R_40 P Y_40 S B_40) H := hP
                  have hD : va_D A ([(aq, .inl (cI, 5, .inl q_40)), (ab, .inl (cI, 48, .inl (upd q117 (((8 : Int32) * (q_40 3)) + (11 : Int32)).toNatClampNeg (((q_40 4) + ((2 : Int32) * q118)) + (2 : Int32))))), (am, .inl (cL, 64, .inr (.inl me_40)))] ++ mod cI cC cT cL ad fr T_40 R_40 P Y_40 S B_40) := hD
                  refine lv_aload_n hx hb dL_law_270 rfl (lv_at hl 2 rfl) ?_
                  refine lv_iconst (v := 4) hx hb dL_law_271 (by decide) ?_
                  refine x_iald (k := 4) hx hb hK hP 0 0 rfl rfl (inb_in (by decide)) rfl dL_law_272 ?_
                  refine lv_istore (lv' := [(13, .int (q_40 4)), (0, .ref b), (1, .ref (ad 0)), (2, .ref aq), (3, .ref ab), (4, .ref am), (5, .int y5_40), (7, .int q4), (9, .int ((8 : Int32) * (q_40 3))), (10, .int ((1 : Int32) + q109)), (11, .long x110)]) hx hb dL_law_273 hl (by decide) rfl (fun ls hl => ?_)
                  obtain ⟨q120, hq120, hd⟩ := bnd_some hd
                  have Kq120 : ∀ (H : Heap) (locs : List Loc) (ls : Array Slot), va_P (dC, dI) vwCl ([(aq, .inl (cI, 5, .inl q_40)), (ab, .inl (cI, 48, .inl (upd q117 (((8 : Int32) * (q_40 3)) + (11 : Int32)).toNatClampNeg (((q_40 4) + ((2 : Int32) * q118)) + (2 : Int32))))), (am, .inl (cL, 64, .inr (.inl q120)))] ++ mod cI cC cT cL ad fr T_40 R_40 P Y_40 S B_40) H → va_D A ([(aq, .inl (cI, 5, .inl q_40)), (ab, .inl (cI, 48, .inl (upd q117 (((8 : Int32) * (q_40 3)) + (11 : Int32)).toNatClampNeg (((q_40 4) + ((2 : Int32) * q118)) + (2 : Int32))))), (am, .inl (cL, 64, .inr (.inl q120)))] ++ mod cI cC cT cL ad fr T_40 R_40 P Y_40 S B_40) → va_S A s.heap H locs → lv_has ls 14 [(0, .ref b), (1, .ref (ad 0)), (2, .ref aq), (3, .ref ab), (4, .ref am), (5, .int y5_40), (7, .int q4), (9, .int ((8 : Int32) * (q_40 3))), (10, .int ((1 : Int32) + q109)), (11, .long x110)] → W p l e room_1 s m #[Value.ref b] below meth c H locs 99 67507 Q (F0 m 303 ls []) := by
                    intro H locs ls hP hD hS hl
                    refine lv_aload_n hx hb dL_law_303 rfl (lv_at hl 2 rfl) ?_
                    refine lv_iconst (v := 4) hx hb dL_law_304 (by decide) ?_
                    refine lv_aload_n hx hb dL_law_305 rfl (lv_at hl 3 rfl) ?_
                    refine lv_iload hx hb dL_law_306 (lv_at hl 7 rfl) ?_
                    refine lv_bipush (v := 11) hx hb dL_law_308 (by decide) ?_
                    refine lv_iadd hx hb dL_law_310 ?_
                    obtain ⟨g121, hd⟩ := gd_some hd
                    refine x_iald (k := (((8 : Int32) * (q_40 3)) + (11 : Int32)).toNatClampNeg) hx hb hK hP 1 0 rfl rfl (inb_in g121) rfl dL_law_311 ?_
                    refine x_iast (k := 4) hx hb hK hP hD hS 0 0 rfl rfl (inb_in (by decide)) rfl dL_law_312 (fun H locs hP hD hS => ?_)
                    have hP : va_P (dC, dI) vwCl ([(aq, .inl (cI, 5, .inl (upd q_40 4 ((upd q117 (((8 : Int32) * (q_40 3)) + (11 : Int32)).toNatClampNeg (((q_40 4) + ((2 : Int32) * q118)) + (2 : Int32))) (((8 : Int32) * (q_40 3)) + (11 : Int32)).toNatClampNeg)))), (ab, .inl (cI, 48, .inl (upd q117 (((8 : Int32) * (q_40 3)) + (11 : Int32)).toNatClampNeg (((q_40 4) + ((2 : Int32) * q118)) + (2 : Int32))))), (am, .inl (cL, 64, .inr (.inl q120)))] ++ mod cI cC cT cL ad fr T_40 R_40 P Y_40 S B_40) H := hP
                    have hD : va_D A ([(aq, .inl (cI, 5, .inl (upd q_40 4 ((upd q117 (((8 : Int32) * (q_40 3)) + (11 : Int32)).toNatClampNeg (((q_40 4) + ((2 : Int32) * q118)) + (2 : Int32))) (((8 : Int32) * (q_40 3)) + (11 : Int32)).toNatClampNeg)))), (ab, .inl (cI, 48, .inl (upd q117 (((8 : Int32) * (q_40 3)) + (11 : Int32)).toNatClampNeg (((q_40 4) + ((2 : Int32) * q118)) + (2 : Int32))))), (am, .inl (cL, 64, .inr (.inl q120)))] ++ mod cI cC cT cL ad fr T_40 R_40 P Y_40 S B_40) := hD
                    refine lv_aload_n hx hb dL_law_313 rfl (lv_at hl 1 rfl) ?_
                    refine lv_aload_n hx hb dL_law_314 rfl (lv_at hl 3 rfl) ?_
                    refine lv_iload hx hb dL_law_315 (lv_at hl 7 rfl) ?_
                    obtain ⟨g122, hd⟩ := gd_some hd
                    refine x_iald (k := ((8 : Int32) * (q_40 3)).toNatClampNeg) hx hb hK hP 1 0 rfl rfl (inb_in g122) rfl dL_law_317 ?_
                    refine lv_aload_n hx hb dL_law_318 rfl (lv_at hl 3 rfl) ?_
                    refine lv_iload hx hb dL_law_319 (lv_at hl 7 rfl) ?_
                    refine lv_iconst (v := 1) hx hb dL_law_321 (by decide) ?_
                    refine lv_iadd hx hb dL_law_322 ?_
                    obtain ⟨g123, hd⟩ := gd_some hd
                    refine x_iald (k := (((8 : Int32) * (q_40 3)) + (1 : Int32)).toNatClampNeg) hx hb hK hP 1 0 rfl rfl (inb_in g123) rfl dL_law_323 ?_
                    refine lv_iload hx hb dL_law_324 (lv_at hl 8 rfl) ?_
                    refine lv_lload hx hb dL_law_326 (lv_at hl 9 rfl) ?_
                    obtain ⟨q124, hq124, hd⟩ := bnd_some hd
                    have hPc := P_r hP
                    have hDc := D_r hD
                    have hFc := F_r hD hS hA
                    refine va_calli (va_runV (As := [.int ((upd q117 (((8 : Int32) * (q_40 3)) + (11 : Int32)).toNatClampNeg (((q_40 4) + ((2 : Int32) * q118)) + (2 : Int32))) ((8 : Int32) * (q_40 3)).toNatClampNeg), .int ((upd q117 (((8 : Int32) * (q_40 3)) + (11 : Int32)).toNatClampNeg (((q_40 4) + ((2 : Int32) * q118)) + (2 : Int32))) (((8 : Int32) * (q_40 3)) + (1 : Int32)).toNatClampNeg), .int ((1 : Int32) + q109), .long x110]) (rest := []) ⟨hx, hb, hml, hown, hts⟩ (w_write l dC dI cI cC cT cL ad fr hfr0 hfr1 hfr2 hfr3 hfr4 hfr5 H.size T_40 R_40 P Y_40 S B_40 ((upd q117 (((8 : Int32) * (q_40 3)) + (11 : Int32)).toNatClampNeg (((q_40 4) + ((2 : Int32) * q118)) + (2 : Int32))) ((8 : Int32) * (q_40 3)).toNatClampNeg) ((upd q117 (((8 : Int32) * (q_40 3)) + (11 : Int32)).toNatClampNeg (((q_40 4) + ((2 : Int32) * q118)) + (2 : Int32))) (((8 : Int32) * (q_40 3)) + (1 : Int32)).toNatClampNeg) ((1 : Int32) + q109) x110 q124 hq124) (cwV 4 hts gL_law_X6_write rfl rfl rfl hv_X6_write ⟨Nat.le_of_ble_eq_true rfl, Nat.le_of_ble_eq_true rfl⟩) ⟨preB_fb, va_recv hK hPc (ci := 6) (q0 := 0) rfl rfl, fun U hU hW => preB_mk hU hW hPc hK hDc hN⟩ rfl rfl hl.1 rfl (lv_room (Nat.le_of_ble_eq_true rfl)) dL_law_328 ⟨Nat.le_of_ble_eq_true rfl, Nat.le_of_ble_eq_true rfl⟩) hS (fun q _ h => hFc q h) hFc (fun r_ u_ t H locs ht hvm hw hB hz1 hk1 hS => ?_)
                    have hw : r_ = q124.1 := hw
                    have hw := hw.symm
                    subst hw
                    obtain ⟨hP, hD⟩ := x_joinR hP hD hk1 hFc ht hB
                    clear hPc hDc hFc hk1 hB ht hz1 hvm
                    refine lv_aload_n hx hb dL_law_331 rfl (lv_at hl 2 rfl) ?_
                    refine lv_iconst (v := 3) hx hb dL_law_332 (by decide) ?_
                    refine lv_dup2_11 hx hb dL_law_333 rfl rfl ?_
                    refine x_iald (k := 3) hx hb hK hP 0 0 rfl rfl (inb_in (by decide)) rfl dL_law_334 ?_
                    refine lv_dup_x2 hx hb dL_law_335 rfl rfl rfl ?_
                    refine lv_iconst (v := 1) hx hb dL_law_336 (by decide) ?_
                    refine lv_iadd hx hb dL_law_337 ?_
                    refine x_iast (k := 3) hx hb hK hP hD hS 0 0 rfl rfl (inb_in (by decide)) rfl dL_law_338 (fun H locs hP hD hS => ?_)
                    have hP : va_P (dC, dI) vwCl ([(aq, .inl (cI, 5, .inl (upd (upd q_40 4 ((upd q117 (((8 : Int32) * (q_40 3)) + (11 : Int32)).toNatClampNeg (((q_40 4) + ((2 : Int32) * q118)) + (2 : Int32))) (((8 : Int32) * (q_40 3)) + (11 : Int32)).toNatClampNeg)) 3 (((upd q_40 4 ((upd q117 (((8 : Int32) * (q_40 3)) + (11 : Int32)).toNatClampNeg (((q_40 4) + ((2 : Int32) * q118)) + (2 : Int32))) (((8 : Int32) * (q_40 3)) + (11 : Int32)).toNatClampNeg)) 3) + (1 : Int32))))), (ab, .inl (cI, 48, .inl (upd q117 (((8 : Int32) * (q_40 3)) + (11 : Int32)).toNatClampNeg (((q_40 4) + ((2 : Int32) * q118)) + (2 : Int32))))), (am, .inl (cL, 64, .inr (.inl q120)))] ++ mod cI cC cT cL ad fr q124.2.1 R_40 P q124.2.2 S B_40) H := hP
                    have hD : va_D A ([(aq, .inl (cI, 5, .inl (upd (upd q_40 4 ((upd q117 (((8 : Int32) * (q_40 3)) + (11 : Int32)).toNatClampNeg (((q_40 4) + ((2 : Int32) * q118)) + (2 : Int32))) (((8 : Int32) * (q_40 3)) + (11 : Int32)).toNatClampNeg)) 3 (((upd q_40 4 ((upd q117 (((8 : Int32) * (q_40 3)) + (11 : Int32)).toNatClampNeg (((q_40 4) + ((2 : Int32) * q118)) + (2 : Int32))) (((8 : Int32) * (q_40 3)) + (11 : Int32)).toNatClampNeg)) 3) + (1 : Int32))))), (ab, .inl (cI, 48, .inl (upd q117 (((8 : Int32) * (q_40 3)) + (11 : Int32)).toNatClampNeg (((q_40 4) + ((2 : Int32) * q118)) + (2 : Int32))))), (am, .inl (cL, 64, .inr (.inl q120)))] ++ mod cI cC cT cL ad fr q124.2.1 R_40 P q124.2.2 S B_40) := hD
                    refine lv_icmp_eq (tgt := 344) hx hb dL_law_339 (by decide) (fun c125 => ?_) (fun c125 => ?_)
                    · replace hd := ite_t c125 hd
                      refine lv_goto (tgt := 730) hx hb dL_law_344 (by decide) ?_
                      cases hd
                      exact Kq6 _ _ _ hP hD hS (lv_sub hl [0, 1, 2, 3, 4, 5, 6] rfl)
                    · replace hd := ite_f c125 hd
                      refine lv_iconst (v := 0) hx hb dL_law_342 (by decide) ?_
                      exact no_some hd
                  clear hd
                  have KL129 : ∀ (fu : Nat) (y13_275 : Int32) (me_275 : (Nat → Int64)) (hd : den_L_law_L275 q_40 q117 q118 fu y13_275 me_275 = some q120) (H : Heap) (locs : List Loc) (ls : Array Slot), va_P (dC, dI) vwCl ([(aq, .inl (cI, 5, .inl q_40)), (ab, .inl (cI, 48, .inl (upd q117 (((8 : Int32) * (q_40 3)) + (11 : Int32)).toNatClampNeg (((q_40 4) + ((2 : Int32) * q118)) + (2 : Int32))))), (am, .inl (cL, 64, .inr (.inl me_275)))] ++ mod cI cC cT cL ad fr T_40 R_40 P Y_40 S B_40) H → va_D A ([(aq, .inl (cI, 5, .inl q_40)), (ab, .inl (cI, 48, .inl (upd q117 (((8 : Int32) * (q_40 3)) + (11 : Int32)).toNatClampNeg (((q_40 4) + ((2 : Int32) * q118)) + (2 : Int32))))), (am, .inl (cL, 64, .inr (.inl me_275)))] ++ mod cI cC cT cL ad fr T_40 R_40 P Y_40 S B_40) → va_S A s.heap H locs → lv_has ls 14 [(0, .ref b), (1, .ref (ad 0)), (2, .ref aq), (3, .ref ab), (4, .ref am), (5, .int y5_40), (7, .int q4), (9, .int ((8 : Int32) * (q_40 3))), (10, .int ((1 : Int32) + q109)), (11, .long x110), (13, .int y13_275)] → W p l e room_1 s m #[Value.ref b] below meth c H locs 99 67507 Q (F0 m 275 ls []) := by
                    intro fu
                    induction fu with
                    | zero => intro y13_275 me_275 hd; exact no_some hd
                    | succ fu ih =>
                      intro y13_275 me_275 hd H locs ls hP hD hS hl
                      rw [den_L_law_L275] at hd
                      refine lv_iload hx hb dL_law_275 (lv_at hl 10 rfl) ?_
                      refine lv_aload_n hx hb dL_law_277 rfl (lv_at hl 3 rfl) ?_
                      refine lv_iload hx hb dL_law_278 (lv_at hl 7 rfl) ?_
                      refine lv_bipush (v := 11) hx hb dL_law_280 (by decide) ?_
                      refine lv_iadd hx hb dL_law_282 ?_
                      obtain ⟨g126, hd⟩ := gd_some hd
                      refine x_iald (k := (((8 : Int32) * (q_40 3)) + (11 : Int32)).toNatClampNeg) hx hb hK hP 1 0 rfl rfl (inb_in g126) rfl dL_law_283 ?_
                      refine lv_icmp_ge (tgt := 303) hx hb dL_law_284 (by decide) (fun c127 => ?_) (fun c127 => ?_)
                      · replace hd := ite_t c127 hd
                        cases hd
                        exact Kq120 _ _ _ hP hD hS (lv_sub hl [0, 1, 2, 3, 4, 5, 6, 7, 8, 9] rfl)
                      · replace hd := ite_f c127 hd
                        refine lv_iload hx hb dL_law_287 (lv_at hl 10 rfl) ?_
                        refine lv_aload_n hx hb dL_law_289 rfl (lv_at hl 2 rfl) ?_
                        refine lv_iconst (v := 0) hx hb dL_law_290 (by decide) ?_
                        refine x_iald (k := 0) hx hb hK hP 0 0 rfl rfl (inb_in (by decide)) rfl dL_law_291 ?_
                        refine lv_aload hx hb dL_law_292 (lv_at hl 4 rfl) ?_
                        obtain ⟨q128, hq128, hd⟩ := bnd_some hd
                        have hPc : va_P (dC, dI) vwCl [(am, .inl (cL, 64, .inr (.inl me_275)))] _ := hP.sub [2] rfl
                        have hDc := hD.sub (ws' := [(am, .inl (cL, 64, .inr (.inl me_275)))]) [2] (by decide) rfl
                        have hFc := va_free (wc := [(am, .inl (cL, 64, .inr (.inl me_275)))]) hD hS hA [2] rfl
                        refine va_callv (va_runS (As := [.int y13_275, .int (q_40 0), .ref am]) (rest := []) ⟨hx, hb, hml, hown, hts⟩ (c_L_lay l dC dI cI cC cT cL am 64 H.size me_275 y13_275 (q_40 0) q128 hq128) (va_cwS 3 hts gL_law_L_lay rfl rfl rfl hp_L_lay ⟨Nat.le_of_ble_eq_true rfl, Nat.le_of_ble_eq_true rfl⟩) ⟨preB_fb, fun U hU hW => preB_mk hU hW hPc hK hDc hN⟩ rfl rfl hl.1 rfl (lv_room (Nat.le_of_ble_eq_true rfl)) dL_law_294 ⟨Nat.le_of_ble_eq_true rfl, Nat.le_of_ble_eq_true rfl⟩) hS (fun q _ h => hFc q h) hFc (fun u_ t H locs ht hvm hw hB hz1 hk1 hS => ?_)
                        obtain ⟨hP, hD⟩ := x_joinL (r' := [(aq, .inl (cI, 5, .inl q_40)), (ab, .inl (cI, 48, .inl (upd q117 (((8 : Int32) * (q_40 3)) + (11 : Int32)).toNatClampNeg (((q_40 4) + ((2 : Int32) * q118)) + (2 : Int32))))), (am, .inl (cL, 64, .inr (.inl q128)))]) hP hD [2] [0, 1] rfl rfl (by decide) (by decide) hk1 hFc ht hB [0, 1, 2] (by decide) rfl rfl
                        clear hPc hDc hFc hk1 hB ht hz1 hvm
                        refine lv_iinc (v := (y13_275 + (1 : Int32))) (lv' := [(13, .int (y13_275 + (1 : Int32))), (0, .ref b), (1, .ref (ad 0)), (2, .ref aq), (3, .ref ab), (4, .ref am), (5, .int y5_40), (7, .int q4), (9, .int ((8 : Int32) * (q_40 3))), (10, .int ((1 : Int32) + q109)), (11, .long x110)]) hx hb dL_law_297 hl (k := 10) rfl (by first | rfl | decide) (by decide) rfl (fun ls hl => ?_)
                        refine lv_goto (tgt := 275) hx hb dL_law_300 (by decide) ?_
                        exact ih (y13_275 + (1 : Int32)) q128 hd _ _ _ hP hD hS (lv_sub hl [1, 2, 3, 4, 5, 6, 7, 8, 9, 10, 0] rfl)
                  exact KL129 FU (q_40 4) me_40 hq120 _ _ _ hP hD hS (lv_sub hl [1, 2, 3, 4, 5, 6, 7, 8, 9, 10, 0] rfl)
                clear hd
                have KL134 : ∀ (fu : Nat) (y13_203 : Int32) (bl_203 : (Nat → Int32)) (hd : den_L_law_L203 q_40 q109 x110 fu y13_203 bl_203 = some q117) (H : Heap) (locs : List Loc) (ls : Array Slot), va_P (dC, dI) vwCl ([(aq, .inl (cI, 5, .inl q_40)), (ab, .inl (cI, 48, .inl bl_203)), (am, .inl (cL, 64, .inr (.inl me_40)))] ++ mod cI cC cT cL ad fr T_40 R_40 P Y_40 S B_40) H → va_D A ([(aq, .inl (cI, 5, .inl q_40)), (ab, .inl (cI, 48, .inl bl_203)), (am, .inl (cL, 64, .inr (.inl me_40)))] ++ mod cI cC cT cL ad fr T_40 R_40 P Y_40 S B_40) → va_S A s.heap H locs → lv_has ls 14 [(0, .ref b), (1, .ref (ad 0)), (2, .ref aq), (3, .ref ab), (4, .ref am), (5, .int y5_40), (7, .int q4), (9, .int ((8 : Int32) * (q_40 3))), (10, .int ((1 : Int32) + q109)), (11, .long x110), (13, .int y13_203)] → W p l e room_1 s m #[Value.ref b] below meth c H locs 99 67507 Q (F0 m 203 ls []) := by
                  intro fu
                  induction fu with
                  | zero => intro y13_203 bl_203 hd; exact no_some hd
                  | succ fu ih =>
                    intro y13_203 bl_203 hd H locs ls hP hD hS hl
                    rw [den_L_law_L203] at hd
                    refine lv_iload hx hb dL_law_203 (lv_at hl 10 rfl) ?_
                    refine lv_iconst (v := 3) hx hb dL_law_205 (by decide) ?_
                    refine lv_icmp_ge (tgt := 248) hx hb dL_law_206 (by decide) (fun c130 => ?_) (fun c130 => ?_)
                    · replace hd := ite_t c130 hd
                      cases hd
                      exact Kq117 _ _ _ hP hD hS (lv_sub hl [0, 1, 2, 3, 4, 5, 6, 7, 8, 9] rfl)
                    · replace hd := ite_f c130 hd
                      refine lv_aload_n hx hb dL_law_209 rfl (lv_at hl 3 rfl) ?_
                      refine lv_iload hx hb dL_law_210 (lv_at hl 7 rfl) ?_
                      refine lv_iconst (v := 4) hx hb dL_law_212 (by decide) ?_
                      refine lv_iadd hx hb dL_law_213 ?_
                      refine lv_iload hx hb dL_law_214 (lv_at hl 10 rfl) ?_
                      refine lv_iadd hx hb dL_law_216 ?_
                      refine lv_iload hx hb dL_law_217 (lv_at hl 10 rfl) ?_
                      refine lv_iload hx hb dL_law_219 (lv_at hl 8 rfl) ?_
                      obtain ⟨q131, hq131, hd⟩ := bnd_some hd
                      have Kq131 : ∀ (H : Heap) (locs : List Loc) (ls : Array Slot), va_P (dC, dI) vwCl ([(aq, .inl (cI, 5, .inl q_40)), (ab, .inl (cI, 48, .inl bl_203)), (am, .inl (cL, 64, .inr (.inl me_40)))] ++ mod cI cC cT cL ad fr T_40 R_40 P Y_40 S B_40) H → va_D A ([(aq, .inl (cI, 5, .inl q_40)), (ab, .inl (cI, 48, .inl bl_203)), (am, .inl (cL, 64, .inr (.inl me_40)))] ++ mod cI cC cT cL ad fr T_40 R_40 P Y_40 S B_40) → va_S A s.heap H locs → lv_has ls 14 [(0, .ref b), (1, .ref (ad 0)), (2, .ref aq), (3, .ref ab), (4, .ref am), (5, .int y5_40), (7, .int q4), (9, .int ((8 : Int32) * (q_40 3))), (10, .int ((1 : Int32) + q109)), (11, .long x110), (13, .int y13_203)] → W p l e room_1 s m #[Value.ref b] below meth c H locs 99 67507 Q (F0 m 241 ls [.int q131, .int ((((8 : Int32) * (q_40 3)) + (4 : Int32)) + y13_203), .ref ab]) := by
                        intro H locs ls hP hD hS hl
                        obtain ⟨g132, hd⟩ := gd_some hd
                        refine x_iast (k := ((((8 : Int32) * (q_40 3)) + (4 : Int32)) + y13_203).toNatClampNeg) hx hb hK hP hD hS 1 0 rfl rfl (inb_in g132) rfl dL_law_241 (fun H locs hP hD hS => ?_)
                        have hP : va_P (dC, dI) vwCl ([(aq, .inl (cI, 5, .inl q_40)), (ab, .inl (cI, 48, .inl (upd bl_203 ((((8 : Int32) * (q_40 3)) + (4 : Int32)) + y13_203).toNatClampNeg q131))), (am, .inl (cL, 64, .inr (.inl me_40)))] ++ mod cI cC cT cL ad fr T_40 R_40 P Y_40 S B_40) H := hP
                        have hD : va_D A ([(aq, .inl (cI, 5, .inl q_40)), (ab, .inl (cI, 48, .inl (upd bl_203 ((((8 : Int32) * (q_40 3)) + (4 : Int32)) + y13_203).toNatClampNeg q131))), (am, .inl (cL, 64, .inr (.inl me_40)))] ++ mod cI cC cT cL ad fr T_40 R_40 P Y_40 S B_40) := hD
                        refine lv_iinc (v := (y13_203 + (1 : Int32))) (lv' := [(13, .int (y13_203 + (1 : Int32))), (0, .ref b), (1, .ref (ad 0)), (2, .ref aq), (3, .ref ab), (4, .ref am), (5, .int y5_40), (7, .int q4), (9, .int ((8 : Int32) * (q_40 3))), (10, .int ((1 : Int32) + q109)), (11, .long x110)]) hx hb dL_law_242 hl (k := 10) rfl (by first | rfl | decide) (by decide) rfl (fun ls hl => ?_)
                        refine lv_goto (tgt := 203) hx hb dL_law_245 (by decide) ?_
                        exact ih (y13_203 + (1 : Int32)) (upd bl_203 ((((8 : Int32) * (q_40 3)) + (4 : Int32)) + y13_203).toNatClampNeg q131) hd _ _ _ hP hD hS (lv_sub hl [1, 2, 3, 4, 5, 6, 7, 8, 9, 10, 0] rfl)
                      replace hd := hq131
                      clear hq131
                      refine lv_icmp_ge (tgt := 240) hx hb dL_law_221 (by decide) (fun c133 => ?_) (fun c133 => ?_)
                      · replace hd := ite_t c133 hd
                        refine lv_iconst (v := 0) hx hb dL_law_240 (by decide) ?_
                        cases hd
                        exact Kq131 _ _ _ hP hD hS (lv_sub hl [0, 1, 2, 3, 4, 5, 6, 7, 8, 9, 10] rfl)
                      · replace hd := ite_f c133 hd
                        refine lv_lload hx hb dL_law_224 (lv_at hl 9 rfl) ?_
                        refine lv_bipush (v := 8) hx hb dL_law_226 (by decide) ?_
                        refine lv_iload hx hb dL_law_228 (lv_at hl 10 rfl) ?_
                        refine lv_imul hx hb dL_law_230 ?_
                        refine lv_lshr (v := (x110 >>> ((((8 : Int32) * y13_203)).toInt64 &&& 63))) hx hb dL_law_231 rfl ?_
                        refine lv_l2i (v := ((x110 >>> ((((8 : Int32) * y13_203)).toInt64 &&& 63))).toInt32) hx hb dL_law_232 rfl ?_
                        refine lv_sipush (v := 255) hx hb dL_law_233 (by decide) ?_
                        refine lv_iand hx hb dL_law_236 ?_
                        refine lv_goto (tgt := 241) hx hb dL_law_237 (by decide) ?_
                        cases hd
                        exact Kq131 _ _ _ hP hD hS (lv_sub hl [0, 1, 2, 3, 4, 5, 6, 7, 8, 9, 10] rfl)
                exact KL134 FU (0 : Int32) (upd (upd (upd (upd bl_40 ((8 : Int32) * (q_40 3)).toNatClampNeg q111) (((8 : Int32) * (q_40 3)) + (1 : Int32)).toNatClampNeg q113) (((8 : Int32) * (q_40 3)) + (2 : Int32)).toNatClampNeg ((1 : Int32) + q109)) (((8 : Int32) * (q_40 3)) + (3 : Int32)).toNatClampNeg (q_40 4)) hq117 _ _ _ hP hD hS (lv_sub hl [1, 2, 3, 4, 5, 6, 7, 8, 9, 10, 0] rfl)
              replace hd := hq113
              clear hq113
              refine lv_if_eq (tgt := 167) hx hb dL_law_152 (by decide) (fun c135 => ?_) (fun c135 => ?_)
              · replace hd := ite_t c135 hd
                refine lv_bipush (v := -6) hx hb dL_law_167 (by decide) ?_
                refine lv_goto (tgt := 182) hx hb dL_law_169 (by decide) ?_
                cases hd
                exact Kq113 _ _ _ hP hD hS (lv_sub hl [4, 5, 6, 7, 8, 9, 11, 2, 1, 0] rfl)
              · replace hd := ite_f c135 hd
                refine lv_iload hx hb dL_law_155 (lv_at hl 10 rfl) ?_
                refine lv_bipush (v := 6) hx hb dL_law_157 (by decide) ?_
                refine lv_ishr hx hb dL_law_159 ?_
                refine lv_iconst (v := 3) hx hb dL_law_160 (by decide) ?_
                obtain ⟨q136, hq136, hd⟩ := bnd_some hd
                have hPc : va_P (dC, dI) vwCl [] _ := hP.sub [] rfl
                have hDc := hD.sub (ws' := []) [] (by decide) rfl
                have hFc := va_free (wc := []) hD hS hA [] rfl
                refine va_calli (va_runS (As := [.int (q3 >>> ((6 : Int32) &&& 31)), .int (3 : Int32)]) (rest := [.int (((8 : Int32) * (q_40 3)) + (1 : Int32)), .ref ab]) ⟨hx, hb, hml, hown, hts⟩ (c_L_low l dC dI cI cC cT cL H.size (q3 >>> ((6 : Int32) &&& 31)) (3 : Int32) q136 hq136) (va_cwS 2 hts gL_law_L_low rfl rfl rfl hp_L_low ⟨Nat.le_of_ble_eq_true rfl, Nat.le_of_ble_eq_true rfl⟩) ⟨preB_fb, fun U hU hW => preB_mk hU hW hPc hK hDc hN⟩ rfl rfl hl.1 rfl (lv_room (Nat.le_of_ble_eq_true rfl)) dL_law_161 ⟨Nat.le_of_ble_eq_true rfl, Nat.le_of_ble_eq_true rfl⟩) hS (fun q _ h => hFc q h) hFc (fun r_ u_ t H locs ht hvm hw hB hz1 hk1 hS => ?_)
                have hw : r_ = q136 := hw
                have hw := hw.symm
                subst hw
                obtain ⟨hP, hD⟩ := x_joinL (r' := [(aq, .inl (cI, 5, .inl q_40)), (ab, .inl (cI, 48, .inl (upd bl_40 ((8 : Int32) * (q_40 3)).toNatClampNeg q111))), (am, .inl (cL, 64, .inr (.inl me_40)))]) hP hD [] [0, 1, 2] rfl rfl (by decide) (by decide) hk1 hFc ht hB [0, 1, 2] (by decide) rfl rfl
                clear hPc hDc hFc hk1 hB ht hz1 hvm
                refine lv_if_ne (tgt := 172) hx hb dL_law_164 (by decide) (fun c137 => ?_) (fun c137 => ?_)
                · replace hd := ite_f c137 hd
                  refine lv_iload hx hb dL_law_172 (lv_at hl 10 rfl) ?_
                  refine lv_iconst (v := 5) hx hb dL_law_174 (by decide) ?_
                  refine lv_ishr hx hb dL_law_175 ?_
                  refine lv_aload_n hx hb dL_law_176 rfl (lv_at hl 6 rfl) ?_
                  refine lv_iconst (v := 3) hx hb dL_law_177 (by decide) ?_
                  refine x_iald (k := 3) hx hb hK hP 0 0 rfl rfl (inb_in (by decide)) rfl dL_law_178 ?_
                  obtain ⟨q138, hq138, hd⟩ := bnd_some hd
                  have hPc : va_P (dC, dI) vwCl [] _ := hP.sub [] rfl
                  have hDc := hD.sub (ws' := []) [] (by decide) rfl
                  have hFc := va_free (wc := []) hD hS hA [] rfl
                  refine va_calli (va_runS (As := [.int (q3 >>> ((5 : Int32) &&& 31)), .int (q_40 3)]) (rest := [.int (((8 : Int32) * (q_40 3)) + (1 : Int32)), .ref ab]) ⟨hx, hb, hml, hown, hts⟩ (c_L_low l dC dI cI cC cT cL H.size (q3 >>> ((5 : Int32) &&& 31)) (q_40 3) q138 hq138) (va_cwS 2 hts gL_law_L_low rfl rfl rfl hp_L_low ⟨Nat.le_of_ble_eq_true rfl, Nat.le_of_ble_eq_true rfl⟩) ⟨preB_fb, fun U hU hW => preB_mk hU hW hPc hK hDc hN⟩ rfl rfl hl.1 rfl (lv_room (Nat.le_of_ble_eq_true rfl)) dL_law_179 ⟨Nat.le_of_ble_eq_true rfl, Nat.le_of_ble_eq_true rfl⟩) hS (fun q _ h => hFc q h) hFc (fun r_ u_ t H locs ht hvm hw hB hz1 hk1 hS => ?_)
                  have hw : r_ = q138 := hw
                  have hw := hw.symm
                  subst hw
                  obtain ⟨hP, hD⟩ := x_joinL (r' := [(aq, .inl (cI, 5, .inl q_40)), (ab, .inl (cI, 48, .inl (upd bl_40 ((8 : Int32) * (q_40 3)).toNatClampNeg q111))), (am, .inl (cL, 64, .inr (.inl me_40)))]) hP hD [] [0, 1, 2] rfl rfl (by decide) (by decide) hk1 hFc ht hB [0, 1, 2] (by decide) rfl rfl
                  clear hPc hDc hFc hk1 hB ht hz1 hvm
                  cases hd
                  exact Kq113 _ _ _ hP hD hS (lv_sub hl [4, 5, 6, 7, 8, 9, 11, 2, 1, 0] rfl)
                · replace hd := ite_t c137 hd
                  refine lv_bipush (v := -6) hx hb dL_law_167 (by decide) ?_
                  refine lv_goto (tgt := 182) hx hb dL_law_169 (by decide) ?_
                  cases hd
                  exact Kq113 _ _ _ hP hD hS (lv_sub hl [4, 5, 6, 7, 8, 9, 11, 2, 1, 0] rfl)
        replace hd := hq5
        clear hq5
        refine lv_icmp_ge (tgt := 79) hx hb dL_law_72 (by decide) (fun c139 => ?_) (fun c139 => ?_)
        · replace hd := ite_t c139 hd
          refine lv_iload hx hb dL_law_79 (lv_at hl 1 rfl) ?_
          refine lv_bipush (v := 10) hx hb dL_law_81 (by decide) ?_
          obtain ⟨q140, hq140, hd⟩ := bnd_some hd
          have hPc : va_P (dC, dI) vwCl [] _ := hP.sub [] rfl
          have hDc := hD.sub (ws' := []) [] (by decide) rfl
          have hFc := va_free (wc := []) hD hS hA [] rfl
          refine va_calli (va_runS (As := [.int q3, .int (10 : Int32)]) (rest := []) ⟨hx, hb, hml, hown, hts⟩ (c_L_low l dC dI cI cC cT cL H.size q3 (10 : Int32) q140 hq140) (va_cwS 2 hts gL_law_L_low rfl rfl rfl hp_L_low ⟨Nat.le_of_ble_eq_true rfl, Nat.le_of_ble_eq_true rfl⟩) ⟨preB_fb, fun U hU hW => preB_mk hU hW hPc hK hDc hN⟩ rfl rfl hl.1 rfl (lv_room (Nat.le_of_ble_eq_true rfl)) dL_law_83 ⟨Nat.le_of_ble_eq_true rfl, Nat.le_of_ble_eq_true rfl⟩) hS (fun q _ h => hFc q h) hFc (fun r_ u_ t H locs ht hvm hw hB hz1 hk1 hS => ?_)
          have hw : r_ = q140 := hw
          have hw := hw.symm
          subst hw
          obtain ⟨hP, hD⟩ := x_joinL (r' := [(aq, .inl (cI, 5, .inl q_40)), (ab, .inl (cI, 48, .inl bl_40)), (am, .inl (cL, 64, .inr (.inl me_40)))]) hP hD [] [0, 1, 2] rfl rfl (by decide) (by decide) hk1 hFc ht hB [0, 1, 2] (by decide) rfl rfl
          clear hPc hDc hFc hk1 hB ht hz1 hvm
          cases hd
          exact Kq5 _ _ _ hP hD hS (lv_sub hl [2, 3, 4, 5, 6, 7, 1, 0] rfl)
        · replace hd := ite_f c139 hd
          refine lv_iconst (v := 0) hx hb dL_law_75 (by decide) ?_
          refine lv_goto (tgt := 86) hx hb dL_law_76 (by decide) ?_
          cases hd
          exact Kq5 _ _ _ hP hD hS (lv_sub hl [2, 3, 4, 5, 6, 7, 1, 0] rfl)
  exact KL141 FU y5 q bl me T R Y B hq1 _ _ _ hP hD hS (lv_sub hl [0, 1, 2, 3, 4, 5] rfl)
