set_option linter.unusedVariables false
def rmX7_read : Room := { frames := 6, cells := 0, slots := 0, locals := 141 }
theorem hp_X7_read : yX7_read.cls ≠ "java/lang/invoke/MethodHandle" ∧ yX7_read.cls ≠ "java/lang/invoke/VarHandle" ∧ (parseMethodDescriptor yX7_read.desc).map (fun d => d.parameters.length) = some 3 := by decide +kernel
theorem hv_X7_read : yX7_read.cls = RX7 ∧ yX7_read.cls ≠ "java/lang/invoke/MethodHandle" ∧ yX7_read.cls ≠ "java/lang/invoke/VarHandle" ∧ (parseMethodDescriptor yX7_read.desc).map (fun d => d.parameters.length) = some 3 := by decide +kernel
set_option maxHeartbeats 4000000 in
set_option maxRecDepth 100000 in
theorem c_X7_read (l : Launch) (dC : Nat → ClassId) (dI : Nat → Nat → Nat) (cI cC cT : ClassId) (h0 h1 h2 h3 h4 h5 h6 h7 : Nat) (sz : Nat) (v_state : (Nat → Int32)) (v_recorded : Int32) (v_padLength : Int32) (v_at : Int32) (v_letter : Int32) (v_hasUnder : Int32) (v_numbersMany : Int32) (p1 : Int32) (p2 : Int32) (p3 : Int32) (r : Int32) (hd : den_X7_read v_state p1 p2 p3 = some r) : Met l yX7_read wsX7_read rmX7_read (va_Pc [.ref h0, .int p1, .int p2, .int p3] (preB sz (dC, dI) [(h0, .inr (7, [.ref h1, .ref h2, .int v_recorded, .ref h3, .ref h4, .ref h5, .int v_padLength, .ref h6, .int v_at, .int v_letter, .int v_hasUnder, .ref h7, .int v_numbersMany])), (h1, .inl (cI, 2628, .inl v_state))] [(cI, .int), (cC, .char), (cT, .object "CassetteTones$Tape")])) (va_Qi (S := Unit) (fun v _ => v = r) (fun _ t => posB (dC, dI) [(h0, .inr (7, [.ref h1, .ref h2, .int v_recorded, .ref h3, .ref h4, .ref h5, .int v_padLength, .ref h6, .int v_at, .int v_letter, .int v_hasUnder, .ref h7, .int v_numbersMany])), (h1, .inl (cI, 2628, .inl v_state))] [(cI, .int), (cC, .char), (cT, .object "CassetteTones$Tape")] (va_A [(h0, .inr (7, [.ref h1, .ref h2, .int v_recorded, .ref h3, .ref h4, .ref h5, .int v_padLength, .ref h6, .int v_at, .int v_letter, .int v_hasUnder, .ref h7, .int v_numbersMany])), (h1, .inl (cI, 2628, .inl v_state))] sz) t) (va_A [(h0, .inr (7, [.ref h1, .ref h2, .int v_recorded, .ref h3, .ref h4, .ref h5, .int v_padLength, .ref h6, .int v_at, .int v_letter, .int v_hasUnder, .ref h7, .int v_numbersMany])), (h1, .inl (cI, 2628, .inl v_state))] sz)) 0 0 (va_A [(h0, .inr (7, [.ref h1, .ref h2, .int v_recorded, .ref h3, .ref h4, .ref h5, .int v_padLength, .ref h6, .int v_at, .int v_letter, .int v_hasUnder, .ref h7, .int v_numbersMany])), (h1, .inl (cI, 2628, .inl v_state))] sz) := by
  refine x_met_i (by decide) rfl (Nat.le_of_ble_eq_true rfl) ?_
  intro p e s m args below meth c A Q H locs ls hx hb hml hown hts hK hN hA hP hD hS hl hend
  have hown : s.vm.findClass RX7 = some m.cls := hown
  have hl : lv_has ls 4 [(0, .ref h0), (1, .int p1), (2, .int p2), (3, .int p3)] := hl
  unfold den_X7_read at hd
  refine lv_aload_n hx hb dX7_read_0 rfl (lv_at hl 0 rfl) ?_
  refine lv_iload_n hx hb dX7_read_1 rfl (lv_at hl 1 rfl) ?_
  obtain ⟨q1, hq1, hd⟩ := bnd_some hd
  have hPc : va_P (dC, dI) vwCl [(h0, .inr (7, [.ref h1, .ref h2, .int v_recorded, .ref h3, .ref h4, .ref h5, .int v_padLength, .ref h6, .int v_at, .int v_letter, .int v_hasUnder, .ref h7, .int v_numbersMany])), (h1, .inl (cI, 2628, .inl v_state))] _ := hP.sub [0, 1] rfl
  have hDc := hD.sub (ws' := [(h0, .inr (7, [.ref h1, .ref h2, .int v_recorded, .ref h3, .ref h4, .ref h5, .int v_padLength, .ref h6, .int v_at, .int v_letter, .int v_hasUnder, .ref h7, .int v_numbersMany])), (h1, .inl (cI, 2628, .inl v_state))]) [0, 1] (by decide) rfl
  have hFc := va_free (wc := [(h0, .inr (7, [.ref h1, .ref h2, .int v_recorded, .ref h3, .ref h4, .ref h5, .int v_padLength, .ref h6, .int v_at, .int v_letter, .int v_hasUnder, .ref h7, .int v_numbersMany])), (h1, .inl (cI, 2628, .inl v_state))]) hD hS hA [0, 1] rfl
  refine va_calli (va_runV (As := [.int p1]) (rest := []) ⟨hx, hb, hml, hown, hts⟩ (c_X7_isBlock l dC dI cI cC cT h0 h1 h2 h3 h4 h5 h6 h7 H.size v_state v_recorded v_padLength v_at v_letter v_hasUnder v_numbersMany p1 q1 hq1) (cwV 1 hts gX7_read_X7_isBlock rfl rfl rfl hv_X7_isBlock ⟨Nat.le_of_ble_eq_true rfl, Nat.le_of_ble_eq_true rfl⟩) ⟨preB_fb, va_recv hK hPc (ci := 7) (q0 := 0) rfl rfl, fun U hU hW => preB_mk hU hW hPc hK hDc hN⟩ rfl rfl hl.1 rfl (lv_room (Nat.le_of_ble_eq_true rfl)) dX7_read_2 ⟨Nat.zero_le _, Nat.zero_le _⟩) hS (fun q _ h => hFc q h) hFc (fun r_ u_ t H locs ht hvm hw hB hz1 hk1 hS => ?_)
  have hw : r_ = q1 := hw
  have hw := hw.symm
  subst hw
  obtain ⟨hP, hD⟩ := x_join (ws' := [(h0, .inr (7, [.ref h1, .ref h2, .int v_recorded, .ref h3, .ref h4, .ref h5, .int v_padLength, .ref h6, .int v_at, .int v_letter, .int v_hasUnder, .ref h7, .int v_numbersMany])), (h1, .inl (cI, 2628, .inl v_state))]) hP hD [0, 1] [] rfl rfl (by decide) (by decide) hk1 hFc ht hB [0, 1] (by decide) rfl
  clear hPc hDc hFc hk1 hB ht hz1 hvm
  refine lv_if_eq (tgt := 22) hx hb dX7_read_5 (by decide) (fun c2 => ?_) (fun c2 => ?_)
  · replace hd := ite_t c2 hd
    refine lv_iconst (v := -1) hx hb dX7_read_22 (by decide) ?_
    cases hd
    exact hend (by rfl) hP hD hS dX7_read_23
  · replace hd := ite_f c2 hd
    refine lv_iload_n hx hb dX7_read_8 rfl (lv_at hl 3 rfl) ?_
    refine lv_iconst (v := 0) hx hb dX7_read_9 (by decide) ?_
    refine lv_aload_n hx hb dX7_read_10 rfl (lv_at hl 0 rfl) ?_
    refine lv_iload_n hx hb dX7_read_11 rfl (lv_at hl 1 rfl) ?_
    refine lv_iconst (v := 2) hx hb dX7_read_12 (by decide) ?_
    obtain ⟨q3, hq3, hd⟩ := bnd_some hd
    have hPc : va_P (dC, dI) vwCl [(h0, .inr (7, [.ref h1, .ref h2, .int v_recorded, .ref h3, .ref h4, .ref h5, .int v_padLength, .ref h6, .int v_at, .int v_letter, .int v_hasUnder, .ref h7, .int v_numbersMany])), (h1, .inl (cI, 2628, .inl v_state))] _ := hP.sub [0, 1] rfl
    have hDc := hD.sub (ws' := [(h0, .inr (7, [.ref h1, .ref h2, .int v_recorded, .ref h3, .ref h4, .ref h5, .int v_padLength, .ref h6, .int v_at, .int v_letter, .int v_hasUnder, .ref h7, .int v_numbersMany])), (h1, .inl (cI, 2628, .inl v_state))]) [0, 1] (by decide) rfl
    have hFc := va_free (wc := [(h0, .inr (7, [.ref h1, .ref h2, .int v_recorded, .ref h3, .ref h4, .ref h5, .int v_padLength, .ref h6, .int v_at, .int v_letter, .int v_hasUnder, .ref h7, .int v_numbersMany])), (h1, .inl (cI, 2628, .inl v_state))]) hD hS hA [0, 1] rfl
    refine va_calli (va_runV (As := [.int p1, .int (2 : Int32)]) (rest := [.int (0 : Int32), .int p3]) ⟨hx, hb, hml, hown, hts⟩ (c_X7_part l dC dI cI cC cT h0 h1 h2 h3 h4 h5 h6 h7 H.size v_state v_recorded v_padLength v_at v_letter v_hasUnder v_numbersMany p1 (2 : Int32) q3 hq3) (cwV 2 hts gX7_read_X7_part rfl rfl rfl hv_X7_part ⟨Nat.le_of_ble_eq_true rfl, Nat.le_of_ble_eq_true rfl⟩) ⟨preB_fb, va_recv hK hPc (ci := 7) (q0 := 0) rfl rfl, fun U hU hW => preB_mk hU hW hPc hK hDc hN⟩ rfl rfl hl.1 rfl (lv_room (Nat.le_of_ble_eq_true rfl)) dX7_read_13 ⟨Nat.zero_le _, Nat.zero_le _⟩) hS (fun q _ h => hFc q h) hFc (fun r_ u_ t H locs ht hvm hw hB hz1 hk1 hS => ?_)
    have hw : r_ = q3 := hw
    have hw := hw.symm
    subst hw
    obtain ⟨hP, hD⟩ := x_join (ws' := [(h0, .inr (7, [.ref h1, .ref h2, .int v_recorded, .ref h3, .ref h4, .ref h5, .int v_padLength, .ref h6, .int v_at, .int v_letter, .int v_hasUnder, .ref h7, .int v_numbersMany])), (h1, .inl (cI, 2628, .inl v_state))]) hP hD [0, 1] [] rfl rfl (by decide) (by decide) hk1 hFc ht hB [0, 1] (by decide) rfl
    clear hPc hDc hFc hk1 hB ht hz1 hvm
    obtain ⟨q4, hq4, hd⟩ := bnd_some hd
    have hPc : va_P (dC, dI) vwCl [] _ := hP.sub [] rfl
    have hDc := hD.sub (ws' := []) [] (by decide) rfl
    have hFc := va_free (wc := []) hD hS hA [] rfl
    refine va_calli (va_runS (As := [.int p3, .int (0 : Int32), .int q3]) (rest := []) ⟨hx, hb, hml, hown, hts⟩ (c_X7_within l dC dI cI cC cT H.size p3 (0 : Int32) q3 q4 hq4) (va_cwS 3 hts gX7_read_X7_within rfl rfl rfl hp_X7_within ⟨Nat.le_of_ble_eq_true rfl, Nat.le_of_ble_eq_true rfl⟩) ⟨preB_fb, fun U hU hW => preB_mk hU hW hPc hK hDc hN⟩ rfl rfl hl.1 rfl (lv_room (Nat.le_of_ble_eq_true rfl)) dX7_read_16 ⟨Nat.zero_le _, Nat.zero_le _⟩) hS (fun q _ h => hFc q h) hFc (fun r_ u_ t H locs ht hvm hw hB hz1 hk1 hS => ?_)
    have hw : r_ = q4 := hw
    have hw := hw.symm
    subst hw
    obtain ⟨hP, hD⟩ := x_join (ws' := [(h0, .inr (7, [.ref h1, .ref h2, .int v_recorded, .ref h3, .ref h4, .ref h5, .int v_padLength, .ref h6, .int v_at, .int v_letter, .int v_hasUnder, .ref h7, .int v_numbersMany])), (h1, .inl (cI, 2628, .inl v_state))]) hP hD [] [0, 1] rfl rfl (by decide) (by decide) hk1 hFc ht hB [0, 1] (by decide) rfl
    clear hPc hDc hFc hk1 hB ht hz1 hvm
    refine lv_if_ne (tgt := 24) hx hb dX7_read_19 (by decide) (fun c5 => ?_) (fun c5 => ?_)
    · replace hd := ite_f c5 hd
      refine lv_iload_n hx hb dX7_read_24 rfl (lv_at hl 2 rfl) ?_
      refine lv_iconst (v := 0) hx hb dX7_read_25 (by decide) ?_
      refine lv_iconst (v := 1) hx hb dX7_read_26 (by decide) ?_
      obtain ⟨q6, hq6, hd⟩ := bnd_some hd
      have hPc : va_P (dC, dI) vwCl [] _ := hP.sub [] rfl
      have hDc := hD.sub (ws' := []) [] (by decide) rfl
      have hFc := va_free (wc := []) hD hS hA [] rfl
      refine va_calli (va_runS (As := [.int p2, .int (0 : Int32), .int (1 : Int32)]) (rest := []) ⟨hx, hb, hml, hown, hts⟩ (c_X7_within l dC dI cI cC cT H.size p2 (0 : Int32) (1 : Int32) q6 hq6) (va_cwS 3 hts gX7_read_X7_within rfl rfl rfl hp_X7_within ⟨Nat.le_of_ble_eq_true rfl, Nat.le_of_ble_eq_true rfl⟩) ⟨preB_fb, fun U hU hW => preB_mk hU hW hPc hK hDc hN⟩ rfl rfl hl.1 rfl (lv_room (Nat.le_of_ble_eq_true rfl)) dX7_read_27 ⟨Nat.zero_le _, Nat.zero_le _⟩) hS (fun q _ h => hFc q h) hFc (fun r_ u_ t H locs ht hvm hw hB hz1 hk1 hS => ?_)
      have hw : r_ = q6 := hw
      have hw := hw.symm
      subst hw
      obtain ⟨hP, hD⟩ := x_join (ws' := [(h0, .inr (7, [.ref h1, .ref h2, .int v_recorded, .ref h3, .ref h4, .ref h5, .int v_padLength, .ref h6, .int v_at, .int v_letter, .int v_hasUnder, .ref h7, .int v_numbersMany])), (h1, .inl (cI, 2628, .inl v_state))]) hP hD [] [0, 1] rfl rfl (by decide) (by decide) hk1 hFc ht hB [0, 1] (by decide) rfl
      clear hPc hDc hFc hk1 hB ht hz1 hvm
      refine lv_if_ne (tgt := 36) hx hb dX7_read_30 (by decide) (fun c7 => ?_) (fun c7 => ?_)
      · replace hd := ite_f c7 hd
        refine lv_aload_n hx hb dX7_read_36 rfl (lv_at hl 0 rfl) ?_
        refine lv_iload_n hx hb dX7_read_37 rfl (lv_at hl 1 rfl) ?_
        refine lv_iload_n hx hb dX7_read_38 rfl (lv_at hl 2 rfl) ?_
        obtain ⟨q8, hq8, hd⟩ := bnd_some hd
        have hPc : va_P (dC, dI) vwCl [(h0, .inr (7, [.ref h1, .ref h2, .int v_recorded, .ref h3, .ref h4, .ref h5, .int v_padLength, .ref h6, .int v_at, .int v_letter, .int v_hasUnder, .ref h7, .int v_numbersMany])), (h1, .inl (cI, 2628, .inl v_state))] _ := hP.sub [0, 1] rfl
        have hDc := hD.sub (ws' := [(h0, .inr (7, [.ref h1, .ref h2, .int v_recorded, .ref h3, .ref h4, .ref h5, .int v_padLength, .ref h6, .int v_at, .int v_letter, .int v_hasUnder, .ref h7, .int v_numbersMany])), (h1, .inl (cI, 2628, .inl v_state))]) [0, 1] (by decide) rfl
        have hFc := va_free (wc := [(h0, .inr (7, [.ref h1, .ref h2, .int v_recorded, .ref h3, .ref h4, .ref h5, .int v_padLength, .ref h6, .int v_at, .int v_letter, .int v_hasUnder, .ref h7, .int v_numbersMany])), (h1, .inl (cI, 2628, .inl v_state))]) hD hS hA [0, 1] rfl
        refine va_calli (va_runV (As := [.int p1, .int p2]) (rest := []) ⟨hx, hb, hml, hown, hts⟩ (c_X7_isLeaderLost l dC dI cI cC cT h0 h1 h2 h3 h4 h5 h6 h7 H.size v_state v_recorded v_padLength v_at v_letter v_hasUnder v_numbersMany p1 p2 q8 hq8) (cwV 2 hts gX7_read_X7_isLeaderLost rfl rfl rfl hv_X7_isLeaderLost ⟨Nat.le_of_ble_eq_true rfl, Nat.le_of_ble_eq_true rfl⟩) ⟨preB_fb, va_recv hK hPc (ci := 7) (q0 := 0) rfl rfl, fun U hU hW => preB_mk hU hW hPc hK hDc hN⟩ rfl rfl hl.1 rfl (lv_room (Nat.le_of_ble_eq_true rfl)) dX7_read_39 ⟨Nat.zero_le _, Nat.zero_le _⟩) hS (fun q _ h => hFc q h) hFc (fun r_ u_ t H locs ht hvm hw hB hz1 hk1 hS => ?_)
        have hw : r_ = q8 := hw
        have hw := hw.symm
        subst hw
        obtain ⟨hP, hD⟩ := x_join (ws' := [(h0, .inr (7, [.ref h1, .ref h2, .int v_recorded, .ref h3, .ref h4, .ref h5, .int v_padLength, .ref h6, .int v_at, .int v_letter, .int v_hasUnder, .ref h7, .int v_numbersMany])), (h1, .inl (cI, 2628, .inl v_state))]) hP hD [0, 1] [] rfl rfl (by decide) (by decide) hk1 hFc ht hB [0, 1] (by decide) rfl
        clear hPc hDc hFc hk1 hB ht hz1 hvm
        refine lv_if_eq (tgt := 50) hx hb dX7_read_42 (by decide) (fun c9 => ?_) (fun c9 => ?_)
        · replace hd := ite_t c9 hd
          refine lv_aload_n hx hb dX7_read_50 rfl (lv_at hl 0 rfl) ?_
          refine lv_iload_n hx hb dX7_read_51 rfl (lv_at hl 1 rfl) ?_
          refine lv_iload_n hx hb dX7_read_52 rfl (lv_at hl 2 rfl) ?_
          refine lv_iload_n hx hb dX7_read_53 rfl (lv_at hl 3 rfl) ?_
          obtain ⟨q10, hq10, hd⟩ := bnd_some hd
          have hPc : va_P (dC, dI) vwCl [(h0, .inr (7, [.ref h1, .ref h2, .int v_recorded, .ref h3, .ref h4, .ref h5, .int v_padLength, .ref h6, .int v_at, .int v_letter, .int v_hasUnder, .ref h7, .int v_numbersMany])), (h1, .inl (cI, 2628, .inl v_state))] _ := hP.sub [0, 1] rfl
          have hDc := hD.sub (ws' := [(h0, .inr (7, [.ref h1, .ref h2, .int v_recorded, .ref h3, .ref h4, .ref h5, .int v_padLength, .ref h6, .int v_at, .int v_letter, .int v_hasUnder, .ref h7, .int v_numbersMany])), (h1, .inl (cI, 2628, .inl v_state))]) [0, 1] (by decide) rfl
          have hFc := va_free (wc := [(h0, .inr (7, [.ref h1, .ref h2, .int v_recorded, .ref h3, .ref h4, .ref h5, .int v_padLength, .ref h6, .int v_at, .int v_letter, .int v_hasUnder, .ref h7, .int v_numbersMany])), (h1, .inl (cI, 2628, .inl v_state))]) hD hS hA [0, 1] rfl
          refine va_calli (va_runV (As := [.int p1, .int p2, .int p3]) (rest := []) ⟨hx, hb, hml, hown, hts⟩ (c_X7_readAt l dC dI cI cC cT h0 h1 h2 h3 h4 h5 h6 h7 H.size v_state v_recorded v_padLength v_at v_letter v_hasUnder v_numbersMany p1 p2 p3 q10 hq10) (cwV 3 hts gX7_read_X7_readAt rfl rfl rfl hv_X7_readAt ⟨Nat.le_of_ble_eq_true rfl, Nat.le_of_ble_eq_true rfl⟩) ⟨preB_fb, va_recv hK hPc (ci := 7) (q0 := 0) rfl rfl, fun U hU hW => preB_mk hU hW hPc hK hDc hN⟩ rfl rfl hl.1 rfl (lv_room (Nat.le_of_ble_eq_true rfl)) dX7_read_54 ⟨Nat.zero_le _, Nat.zero_le _⟩) hS (fun q _ h => hFc q h) hFc (fun r_ u_ t H locs ht hvm hw hB hz1 hk1 hS => ?_)
          have hw : r_ = q10 := hw
          have hw := hw.symm
          subst hw
          obtain ⟨hP, hD⟩ := x_join (ws' := [(h0, .inr (7, [.ref h1, .ref h2, .int v_recorded, .ref h3, .ref h4, .ref h5, .int v_padLength, .ref h6, .int v_at, .int v_letter, .int v_hasUnder, .ref h7, .int v_numbersMany])), (h1, .inl (cI, 2628, .inl v_state))]) hP hD [0, 1] [] rfl rfl (by decide) (by decide) hk1 hFc ht hB [0, 1] (by decide) rfl
          clear hPc hDc hFc hk1 hB ht hz1 hvm
          cases hd
          exact hend (by rfl) hP hD hS dX7_read_57
        · replace hd := ite_f c9 hd
          refine lv_bipush (v := -6) hx hb dX7_read_45 (by decide) ?_
          refine lv_goto (tgt := 57) hx hb dX7_read_47 (by decide) ?_
          cases hd
          exact hend (by rfl) hP hD hS dX7_read_57
      · replace hd := ite_t c7 hd
        refine lv_bipush (v := -2) hx hb dX7_read_33 (by decide) ?_
        cases hd
        exact hend (by rfl) hP hD hS dX7_read_35
    · replace hd := ite_t c5 hd
      refine lv_iconst (v := -1) hx hb dX7_read_22 (by decide) ?_
      cases hd
      exact hend (by rfl) hP hD hS dX7_read_23
def rmX7_whereIn : Room := { frames := 5, cells := 0, slots := 0, locals := 109 }
theorem hp_X7_whereIn : yX7_whereIn.cls ≠ "java/lang/invoke/MethodHandle" ∧ yX7_whereIn.cls ≠ "java/lang/invoke/VarHandle" ∧ (parseMethodDescriptor yX7_whereIn.desc).map (fun d => d.parameters.length) = some 1 := by decide +kernel
theorem hv_X7_whereIn : yX7_whereIn.cls = RX7 ∧ yX7_whereIn.cls ≠ "java/lang/invoke/MethodHandle" ∧ yX7_whereIn.cls ≠ "java/lang/invoke/VarHandle" ∧ (parseMethodDescriptor yX7_whereIn.desc).map (fun d => d.parameters.length) = some 1 := by decide +kernel
set_option maxHeartbeats 4000000 in
set_option maxRecDepth 100000 in
theorem c_X7_whereIn (l : Launch) (dC : Nat → ClassId) (dI : Nat → Nat → Nat) (cI cC cT : ClassId) (h0 h1 h2 h3 h4 h5 h6 h7 : Nat) (sz : Nat) (v_state : (Nat → Int32)) (v_recorded : Int32) (v_padLength : Int32) (v_at : Int32) (v_letter : Int32) (v_hasUnder : Int32) (v_numbersMany : Int32) (p1 : Int32) (r : Int32) (hd : den_X7_whereIn v_state p1 = some r) : Met l yX7_whereIn wsX7_whereIn rmX7_whereIn (va_Pc [.ref h0, .int p1] (preB sz (dC, dI) [(h0, .inr (7, [.ref h1, .ref h2, .int v_recorded, .ref h3, .ref h4, .ref h5, .int v_padLength, .ref h6, .int v_at, .int v_letter, .int v_hasUnder, .ref h7, .int v_numbersMany])), (h1, .inl (cI, 2628, .inl v_state))] [(cI, .int), (cC, .char), (cT, .object "CassetteTones$Tape")])) (va_Qi (S := Unit) (fun v _ => v = r) (fun _ t => posB (dC, dI) [(h0, .inr (7, [.ref h1, .ref h2, .int v_recorded, .ref h3, .ref h4, .ref h5, .int v_padLength, .ref h6, .int v_at, .int v_letter, .int v_hasUnder, .ref h7, .int v_numbersMany])), (h1, .inl (cI, 2628, .inl v_state))] [(cI, .int), (cC, .char), (cT, .object "CassetteTones$Tape")] (va_A [(h0, .inr (7, [.ref h1, .ref h2, .int v_recorded, .ref h3, .ref h4, .ref h5, .int v_padLength, .ref h6, .int v_at, .int v_letter, .int v_hasUnder, .ref h7, .int v_numbersMany])), (h1, .inl (cI, 2628, .inl v_state))] sz) t) (va_A [(h0, .inr (7, [.ref h1, .ref h2, .int v_recorded, .ref h3, .ref h4, .ref h5, .int v_padLength, .ref h6, .int v_at, .int v_letter, .int v_hasUnder, .ref h7, .int v_numbersMany])), (h1, .inl (cI, 2628, .inl v_state))] sz)) 0 0 (va_A [(h0, .inr (7, [.ref h1, .ref h2, .int v_recorded, .ref h3, .ref h4, .ref h5, .int v_padLength, .ref h6, .int v_at, .int v_letter, .int v_hasUnder, .ref h7, .int v_numbersMany])), (h1, .inl (cI, 2628, .inl v_state))] sz) := by
  refine x_met_i (by decide) rfl (Nat.le_of_ble_eq_true rfl) ?_
  intro p e s m args below meth c A Q H locs ls hx hb hml hown hts hK hN hA hP hD hS hl hend
  have hown : s.vm.findClass RX7 = some m.cls := hown
  have hl : lv_has ls 3 [(0, .ref h0), (1, .int p1)] := hl
  unfold den_X7_whereIn at hd
  refine lv_aload_n hx hb dX7_whereIn_0 rfl (lv_at hl 0 rfl) ?_
  refine lv_iload_n hx hb dX7_whereIn_1 rfl (lv_at hl 1 rfl) ?_
  obtain ⟨q1, hq1, hd⟩ := bnd_some hd
  have hPc : va_P (dC, dI) vwCl [(h0, .inr (7, [.ref h1, .ref h2, .int v_recorded, .ref h3, .ref h4, .ref h5, .int v_padLength, .ref h6, .int v_at, .int v_letter, .int v_hasUnder, .ref h7, .int v_numbersMany])), (h1, .inl (cI, 2628, .inl v_state))] _ := hP.sub [0, 1] rfl
  have hDc := hD.sub (ws' := [(h0, .inr (7, [.ref h1, .ref h2, .int v_recorded, .ref h3, .ref h4, .ref h5, .int v_padLength, .ref h6, .int v_at, .int v_letter, .int v_hasUnder, .ref h7, .int v_numbersMany])), (h1, .inl (cI, 2628, .inl v_state))]) [0, 1] (by decide) rfl
  have hFc := va_free (wc := [(h0, .inr (7, [.ref h1, .ref h2, .int v_recorded, .ref h3, .ref h4, .ref h5, .int v_padLength, .ref h6, .int v_at, .int v_letter, .int v_hasUnder, .ref h7, .int v_numbersMany])), (h1, .inl (cI, 2628, .inl v_state))]) hD hS hA [0, 1] rfl
  refine va_calli (va_runV (As := [.int p1]) (rest := []) ⟨hx, hb, hml, hown, hts⟩ (c_X7_blockOf l dC dI cI cC cT h0 h1 h2 h3 h4 h5 h6 h7 H.size v_state v_recorded v_padLength v_at v_letter v_hasUnder v_numbersMany p1 q1 hq1) (cwV 1 hts gX7_whereIn_X7_blockOf rfl rfl rfl hv_X7_blockOf ⟨Nat.le_of_ble_eq_true rfl, Nat.le_of_ble_eq_true rfl⟩) ⟨preB_fb, va_recv hK hPc (ci := 7) (q0 := 0) rfl rfl, fun U hU hW => preB_mk hU hW hPc hK hDc hN⟩ rfl rfl hl.1 rfl (lv_room (Nat.le_of_ble_eq_true rfl)) dX7_whereIn_2 ⟨Nat.zero_le _, Nat.zero_le _⟩) hS (fun q _ h => hFc q h) hFc (fun r_ u_ t H locs ht hvm hw hB hz1 hk1 hS => ?_)
  have hw : r_ = q1 := hw
  have hw := hw.symm
  subst hw
  obtain ⟨hP, hD⟩ := x_join (ws' := [(h0, .inr (7, [.ref h1, .ref h2, .int v_recorded, .ref h3, .ref h4, .ref h5, .int v_padLength, .ref h6, .int v_at, .int v_letter, .int v_hasUnder, .ref h7, .int v_numbersMany])), (h1, .inl (cI, 2628, .inl v_state))]) hP hD [0, 1] [] rfl rfl (by decide) (by decide) hk1 hFc ht hB [0, 1] (by decide) rfl
  clear hPc hDc hFc hk1 hB ht hz1 hvm
  refine lv_istore_n (lv' := [(2, .int q1), (0, .ref h0), (1, .int p1)]) hx hb dX7_whereIn_5 rfl hl (by decide) rfl (fun ls hl => ?_)
  refine lv_iload_n hx hb dX7_whereIn_6 rfl (lv_at hl 2 rfl) ?_
  refine lv_aload_n hx hb dX7_whereIn_7 rfl (lv_at hl 1 rfl) ?_
  refine lv_iload_n hx hb dX7_whereIn_8 rfl (lv_at hl 0 rfl) ?_
  obtain ⟨q2, hq2, hd⟩ := bnd_some hd
  have hPc : va_P (dC, dI) vwCl [(h0, .inr (7, [.ref h1, .ref h2, .int v_recorded, .ref h3, .ref h4, .ref h5, .int v_padLength, .ref h6, .int v_at, .int v_letter, .int v_hasUnder, .ref h7, .int v_numbersMany])), (h1, .inl (cI, 2628, .inl v_state))] _ := hP.sub [0, 1] rfl
  have hDc := hD.sub (ws' := [(h0, .inr (7, [.ref h1, .ref h2, .int v_recorded, .ref h3, .ref h4, .ref h5, .int v_padLength, .ref h6, .int v_at, .int v_letter, .int v_hasUnder, .ref h7, .int v_numbersMany])), (h1, .inl (cI, 2628, .inl v_state))]) [0, 1] (by decide) rfl
  have hFc := va_free (wc := [(h0, .inr (7, [.ref h1, .ref h2, .int v_recorded, .ref h3, .ref h4, .ref h5, .int v_padLength, .ref h6, .int v_at, .int v_letter, .int v_hasUnder, .ref h7, .int v_numbersMany])), (h1, .inl (cI, 2628, .inl v_state))]) hD hS hA [0, 1] rfl
  refine va_calli (va_runV (As := [.int q1]) (rest := [.int p1]) ⟨hx, hb, hml, hown, hts⟩ (c_X7_firstOf l dC dI cI cC cT h0 h1 h2 h3 h4 h5 h6 h7 H.size v_state v_recorded v_padLength v_at v_letter v_hasUnder v_numbersMany q1 q2 hq2) (cwV 1 hts gX7_whereIn_X7_firstOf rfl rfl rfl hv_X7_firstOf ⟨Nat.le_of_ble_eq_true rfl, Nat.le_of_ble_eq_true rfl⟩) ⟨preB_fb, va_recv hK hPc (ci := 7) (q0 := 0) rfl rfl, fun U hU hW => preB_mk hU hW hPc hK hDc hN⟩ rfl rfl hl.1 rfl (lv_room (Nat.le_of_ble_eq_true rfl)) dX7_whereIn_9 ⟨Nat.zero_le _, Nat.zero_le _⟩) hS (fun q _ h => hFc q h) hFc (fun r_ u_ t H locs ht hvm hw hB hz1 hk1 hS => ?_)
  have hw : r_ = q2 := hw
  have hw := hw.symm
  subst hw
  obtain ⟨hP, hD⟩ := x_join (ws' := [(h0, .inr (7, [.ref h1, .ref h2, .int v_recorded, .ref h3, .ref h4, .ref h5, .int v_padLength, .ref h6, .int v_at, .int v_letter, .int v_hasUnder, .ref h7, .int v_numbersMany])), (h1, .inl (cI, 2628, .inl v_state))]) hP hD [0, 1] [] rfl rfl (by decide) (by decide) hk1 hFc ht hB [0, 1] (by decide) rfl
  clear hPc hDc hFc hk1 hB ht hz1 hvm
  refine lv_isub hx hb dX7_whereIn_12 ?_
  refine lv_aload_n hx hb dX7_whereIn_13 rfl (lv_at hl 1 rfl) ?_
  refine lv_iload_n hx hb dX7_whereIn_14 rfl (lv_at hl 0 rfl) ?_
  obtain ⟨q3, hq3, hd⟩ := bnd_some hd
  have hPc : va_P (dC, dI) vwCl [(h0, .inr (7, [.ref h1, .ref h2, .int v_recorded, .ref h3, .ref h4, .ref h5, .int v_padLength, .ref h6, .int v_at, .int v_letter, .int v_hasUnder, .ref h7, .int v_numbersMany])), (h1, .inl (cI, 2628, .inl v_state))] _ := hP.sub [0, 1] rfl
  have hDc := hD.sub (ws' := [(h0, .inr (7, [.ref h1, .ref h2, .int v_recorded, .ref h3, .ref h4, .ref h5, .int v_padLength, .ref h6, .int v_at, .int v_letter, .int v_hasUnder, .ref h7, .int v_numbersMany])), (h1, .inl (cI, 2628, .inl v_state))]) [0, 1] (by decide) rfl
  have hFc := va_free (wc := [(h0, .inr (7, [.ref h1, .ref h2, .int v_recorded, .ref h3, .ref h4, .ref h5, .int v_padLength, .ref h6, .int v_at, .int v_letter, .int v_hasUnder, .ref h7, .int v_numbersMany])), (h1, .inl (cI, 2628, .inl v_state))]) hD hS hA [0, 1] rfl
  refine va_calli (va_runV (As := [.int q1]) (rest := [.int (p1 - q2)]) ⟨hx, hb, hml, hown, hts⟩ (c_X7_tellingSize l dC dI cI cC cT h0 h1 h2 h3 h4 h5 h6 h7 H.size v_state v_recorded v_padLength v_at v_letter v_hasUnder v_numbersMany q1 q3 hq3) (cwV 1 hts gX7_whereIn_X7_tellingSize rfl rfl rfl hv_X7_tellingSize ⟨Nat.le_of_ble_eq_true rfl, Nat.le_of_ble_eq_true rfl⟩) ⟨preB_fb, va_recv hK hPc (ci := 7) (q0 := 0) rfl rfl, fun U hU hW => preB_mk hU hW hPc hK hDc hN⟩ rfl rfl hl.1 rfl (lv_room (Nat.le_of_ble_eq_true rfl)) dX7_whereIn_15 ⟨Nat.zero_le _, Nat.zero_le _⟩) hS (fun q _ h => hFc q h) hFc (fun r_ u_ t H locs ht hvm hw hB hz1 hk1 hS => ?_)
  have hw : r_ = q3 := hw
  have hw := hw.symm
  subst hw
  obtain ⟨hP, hD⟩ := x_join (ws' := [(h0, .inr (7, [.ref h1, .ref h2, .int v_recorded, .ref h3, .ref h4, .ref h5, .int v_padLength, .ref h6, .int v_at, .int v_letter, .int v_hasUnder, .ref h7, .int v_numbersMany])), (h1, .inl (cI, 2628, .inl v_state))]) hP hD [0, 1] [] rfl rfl (by decide) (by decide) hk1 hFc ht hB [0, 1] (by decide) rfl
  clear hPc hDc hFc hk1 hB ht hz1 hvm
  obtain ⟨g4, hd⟩ := gd_some hd
  refine lv_idiv hx hb dX7_whereIn_18 (of_decide_eq_true g4) ?_
  cases hd
  exact hend (by rfl) hP hD hS dX7_whereIn_19
def rmX7_bitOf : Room := { frames := 6, cells := 0, slots := 0, locals := 131 }
theorem hp_X7_bitOf : yX7_bitOf.cls ≠ "java/lang/invoke/MethodHandle" ∧ yX7_bitOf.cls ≠ "java/lang/invoke/VarHandle" ∧ (parseMethodDescriptor yX7_bitOf.desc).map (fun d => d.parameters.length) = some 1 := by decide +kernel
theorem hv_X7_bitOf : yX7_bitOf.cls = RX7 ∧ yX7_bitOf.cls ≠ "java/lang/invoke/MethodHandle" ∧ yX7_bitOf.cls ≠ "java/lang/invoke/VarHandle" ∧ (parseMethodDescriptor yX7_bitOf.desc).map (fun d => d.parameters.length) = some 1 := by decide +kernel
set_option maxHeartbeats 4000000 in
set_option maxRecDepth 100000 in
theorem c_X7_bitOf (l : Launch) (dC : Nat → ClassId) (dI : Nat → Nat → Nat) (cI cC cT : ClassId) (h0 h1 h2 h3 h4 h5 h6 h7 : Nat) (sz : Nat) (v_state : (Nat → Int32)) (v_recorded : Int32) (v_padLength : Int32) (v_at : Int32) (v_letter : Int32) (v_hasUnder : Int32) (v_numbersMany : Int32) (p1 : Int32) (r : Int32) (hd : den_X7_bitOf v_state p1 = some r) : Met l yX7_bitOf wsX7_bitOf rmX7_bitOf (va_Pc [.ref h0, .int p1] (preB sz (dC, dI) [(h0, .inr (7, [.ref h1, .ref h2, .int v_recorded, .ref h3, .ref h4, .ref h5, .int v_padLength, .ref h6, .int v_at, .int v_letter, .int v_hasUnder, .ref h7, .int v_numbersMany])), (h1, .inl (cI, 2628, .inl v_state))] [(cI, .int), (cC, .char), (cT, .object "CassetteTones$Tape")])) (va_Qi (S := Unit) (fun v _ => v = r) (fun _ t => posB (dC, dI) [(h0, .inr (7, [.ref h1, .ref h2, .int v_recorded, .ref h3, .ref h4, .ref h5, .int v_padLength, .ref h6, .int v_at, .int v_letter, .int v_hasUnder, .ref h7, .int v_numbersMany])), (h1, .inl (cI, 2628, .inl v_state))] [(cI, .int), (cC, .char), (cT, .object "CassetteTones$Tape")] (va_A [(h0, .inr (7, [.ref h1, .ref h2, .int v_recorded, .ref h3, .ref h4, .ref h5, .int v_padLength, .ref h6, .int v_at, .int v_letter, .int v_hasUnder, .ref h7, .int v_numbersMany])), (h1, .inl (cI, 2628, .inl v_state))] sz) t) (va_A [(h0, .inr (7, [.ref h1, .ref h2, .int v_recorded, .ref h3, .ref h4, .ref h5, .int v_padLength, .ref h6, .int v_at, .int v_letter, .int v_hasUnder, .ref h7, .int v_numbersMany])), (h1, .inl (cI, 2628, .inl v_state))] sz)) 0 0 (va_A [(h0, .inr (7, [.ref h1, .ref h2, .int v_recorded, .ref h3, .ref h4, .ref h5, .int v_padLength, .ref h6, .int v_at, .int v_letter, .int v_hasUnder, .ref h7, .int v_numbersMany])), (h1, .inl (cI, 2628, .inl v_state))] sz) := by
  refine x_met_i (by decide) rfl (Nat.le_of_ble_eq_true rfl) ?_
  intro p e s m args below meth c A Q H locs ls hx hb hml hown hts hK hN hA hP hD hS hl hend
  have hown : s.vm.findClass RX7 = some m.cls := hown
  have hl : lv_has ls 4 [(0, .ref h0), (1, .int p1)] := hl
  unfold den_X7_bitOf at hd
  refine lv_aload_n hx hb dX7_bitOf_0 rfl (lv_at hl 0 rfl) ?_
  refine lv_iload_n hx hb dX7_bitOf_1 rfl (lv_at hl 1 rfl) ?_
  obtain ⟨q1, hq1, hd⟩ := bnd_some hd
  have hPc : va_P (dC, dI) vwCl [(h0, .inr (7, [.ref h1, .ref h2, .int v_recorded, .ref h3, .ref h4, .ref h5, .int v_padLength, .ref h6, .int v_at, .int v_letter, .int v_hasUnder, .ref h7, .int v_numbersMany])), (h1, .inl (cI, 2628, .inl v_state))] _ := hP.sub [0, 1] rfl
  have hDc := hD.sub (ws' := [(h0, .inr (7, [.ref h1, .ref h2, .int v_recorded, .ref h3, .ref h4, .ref h5, .int v_padLength, .ref h6, .int v_at, .int v_letter, .int v_hasUnder, .ref h7, .int v_numbersMany])), (h1, .inl (cI, 2628, .inl v_state))]) [0, 1] (by decide) rfl
  have hFc := va_free (wc := [(h0, .inr (7, [.ref h1, .ref h2, .int v_recorded, .ref h3, .ref h4, .ref h5, .int v_padLength, .ref h6, .int v_at, .int v_letter, .int v_hasUnder, .ref h7, .int v_numbersMany])), (h1, .inl (cI, 2628, .inl v_state))]) hD hS hA [0, 1] rfl
  refine va_calli (va_runV (As := [.int p1]) (rest := []) ⟨hx, hb, hml, hown, hts⟩ (c_X7_blockOf l dC dI cI cC cT h0 h1 h2 h3 h4 h5 h6 h7 H.size v_state v_recorded v_padLength v_at v_letter v_hasUnder v_numbersMany p1 q1 hq1) (cwV 1 hts gX7_bitOf_X7_blockOf rfl rfl rfl hv_X7_blockOf ⟨Nat.le_of_ble_eq_true rfl, Nat.le_of_ble_eq_true rfl⟩) ⟨preB_fb, va_recv hK hPc (ci := 7) (q0 := 0) rfl rfl, fun U hU hW => preB_mk hU hW hPc hK hDc hN⟩ rfl rfl hl.1 rfl (lv_room (Nat.le_of_ble_eq_true rfl)) dX7_bitOf_2 ⟨Nat.zero_le _, Nat.zero_le _⟩) hS (fun q _ h => hFc q h) hFc (fun r_ u_ t H locs ht hvm hw hB hz1 hk1 hS => ?_)
  have hw : r_ = q1 := hw
  have hw := hw.symm
  subst hw
  obtain ⟨hP, hD⟩ := x_join (ws' := [(h0, .inr (7, [.ref h1, .ref h2, .int v_recorded, .ref h3, .ref h4, .ref h5, .int v_padLength, .ref h6, .int v_at, .int v_letter, .int v_hasUnder, .ref h7, .int v_numbersMany])), (h1, .inl (cI, 2628, .inl v_state))]) hP hD [0, 1] [] rfl rfl (by decide) (by decide) hk1 hFc ht hB [0, 1] (by decide) rfl
  clear hPc hDc hFc hk1 hB ht hz1 hvm
  refine lv_istore_n (lv' := [(2, .int q1), (0, .ref h0), (1, .int p1)]) hx hb dX7_bitOf_5 rfl hl (by decide) rfl (fun ls hl => ?_)
  refine lv_aload_n hx hb dX7_bitOf_6 rfl (lv_at hl 1 rfl) ?_
  refine lv_iload_n hx hb dX7_bitOf_7 rfl (lv_at hl 2 rfl) ?_
  obtain ⟨q2, hq2, hd⟩ := bnd_some hd
  have hPc : va_P (dC, dI) vwCl [(h0, .inr (7, [.ref h1, .ref h2, .int v_recorded, .ref h3, .ref h4, .ref h5, .int v_padLength, .ref h6, .int v_at, .int v_letter, .int v_hasUnder, .ref h7, .int v_numbersMany])), (h1, .inl (cI, 2628, .inl v_state))] _ := hP.sub [0, 1] rfl
  have hDc := hD.sub (ws' := [(h0, .inr (7, [.ref h1, .ref h2, .int v_recorded, .ref h3, .ref h4, .ref h5, .int v_padLength, .ref h6, .int v_at, .int v_letter, .int v_hasUnder, .ref h7, .int v_numbersMany])), (h1, .inl (cI, 2628, .inl v_state))]) [0, 1] (by decide) rfl
  have hFc := va_free (wc := [(h0, .inr (7, [.ref h1, .ref h2, .int v_recorded, .ref h3, .ref h4, .ref h5, .int v_padLength, .ref h6, .int v_at, .int v_letter, .int v_hasUnder, .ref h7, .int v_numbersMany])), (h1, .inl (cI, 2628, .inl v_state))]) hD hS hA [0, 1] rfl
  refine va_calli (va_runV (As := [.int p1]) (rest := []) ⟨hx, hb, hml, hown, hts⟩ (c_X7_whereIn l dC dI cI cC cT h0 h1 h2 h3 h4 h5 h6 h7 H.size v_state v_recorded v_padLength v_at v_letter v_hasUnder v_numbersMany p1 q2 hq2) (cwV 1 hts gX7_bitOf_X7_whereIn rfl rfl rfl hv_X7_whereIn ⟨Nat.le_of_ble_eq_true rfl, Nat.le_of_ble_eq_true rfl⟩) ⟨preB_fb, va_recv hK hPc (ci := 7) (q0 := 0) rfl rfl, fun U hU hW => preB_mk hU hW hPc hK hDc hN⟩ rfl rfl hl.1 rfl (lv_room (Nat.le_of_ble_eq_true rfl)) dX7_bitOf_8 ⟨Nat.zero_le _, Nat.zero_le _⟩) hS (fun q _ h => hFc q h) hFc (fun r_ u_ t H locs ht hvm hw hB hz1 hk1 hS => ?_)
  have hw : r_ = q2 := hw
  have hw := hw.symm
  subst hw
  obtain ⟨hP, hD⟩ := x_join (ws' := [(h0, .inr (7, [.ref h1, .ref h2, .int v_recorded, .ref h3, .ref h4, .ref h5, .int v_padLength, .ref h6, .int v_at, .int v_letter, .int v_hasUnder, .ref h7, .int v_numbersMany])), (h1, .inl (cI, 2628, .inl v_state))]) hP hD [0, 1] [] rfl rfl (by decide) (by decide) hk1 hFc ht hB [0, 1] (by decide) rfl
  clear hPc hDc hFc hk1 hB ht hz1 hvm
  refine lv_istore_n (lv' := [(3, .int q2), (2, .int q1), (0, .ref h0), (1, .int p1)]) hx hb dX7_bitOf_11 rfl hl (by decide) rfl (fun ls hl => ?_)
  refine lv_iload_n hx hb dX7_bitOf_12 rfl (lv_at hl 0 rfl) ?_
  refine lv_iconst (v := 2) hx hb dX7_bitOf_13 (by decide) ?_
  refine lv_icmp_ne (tgt := 21) hx hb dX7_bitOf_14 (by decide) (fun c3 => ?_) (fun c3 => ?_)
  · replace hd := ite_f c3 hd
    refine lv_aload_n hx hb dX7_bitOf_21 rfl (lv_at hl 2 rfl) ?_
    refine lv_iload_n hx hb dX7_bitOf_22 rfl (lv_at hl 1 rfl) ?_
    refine lv_iload_n hx hb dX7_bitOf_23 rfl (lv_at hl 0 rfl) ?_
    refine lv_iload_n hx hb dX7_bitOf_24 rfl (lv_at hl 3 rfl) ?_
    refine lv_aload_n hx hb dX7_bitOf_25 rfl (lv_at hl 2 rfl) ?_
    refine lv_iload_n hx hb dX7_bitOf_26 rfl (lv_at hl 1 rfl) ?_
    obtain ⟨q4, hq4, hd⟩ := bnd_some hd
    have hPc : va_P (dC, dI) vwCl [(h0, .inr (7, [.ref h1, .ref h2, .int v_recorded, .ref h3, .ref h4, .ref h5, .int v_padLength, .ref h6, .int v_at, .int v_letter, .int v_hasUnder, .ref h7, .int v_numbersMany])), (h1, .inl (cI, 2628, .inl v_state))] _ := hP.sub [0, 1] rfl
    have hDc := hD.sub (ws' := [(h0, .inr (7, [.ref h1, .ref h2, .int v_recorded, .ref h3, .ref h4, .ref h5, .int v_padLength, .ref h6, .int v_at, .int v_letter, .int v_hasUnder, .ref h7, .int v_numbersMany])), (h1, .inl (cI, 2628, .inl v_state))]) [0, 1] (by decide) rfl
    have hFc := va_free (wc := [(h0, .inr (7, [.ref h1, .ref h2, .int v_recorded, .ref h3, .ref h4, .ref h5, .int v_padLength, .ref h6, .int v_at, .int v_letter, .int v_hasUnder, .ref h7, .int v_numbersMany])), (h1, .inl (cI, 2628, .inl v_state))]) hD hS hA [0, 1] rfl
    refine va_calli (va_runV (As := [.int q1]) (rest := [.int p1, .int q2, .int q1, .ref h0]) ⟨hx, hb, hml, hown, hts⟩ (c_X7_firstOf l dC dI cI cC cT h0 h1 h2 h3 h4 h5 h6 h7 H.size v_state v_recorded v_padLength v_at v_letter v_hasUnder v_numbersMany q1 q4 hq4) (cwV 1 hts gX7_bitOf_X7_firstOf rfl rfl rfl hv_X7_firstOf ⟨Nat.le_of_ble_eq_true rfl, Nat.le_of_ble_eq_true rfl⟩) ⟨preB_fb, va_recv hK hPc (ci := 7) (q0 := 0) rfl rfl, fun U hU hW => preB_mk hU hW hPc hK hDc hN⟩ rfl rfl hl.1 rfl (lv_room (Nat.le_of_ble_eq_true rfl)) dX7_bitOf_27 ⟨Nat.zero_le _, Nat.zero_le _⟩) hS (fun q _ h => hFc q h) hFc (fun r_ u_ t H locs ht hvm hw hB hz1 hk1 hS => ?_)
    have hw : r_ = q4 := hw
    have hw := hw.symm
    subst hw
    obtain ⟨hP, hD⟩ := x_join (ws' := [(h0, .inr (7, [.ref h1, .ref h2, .int v_recorded, .ref h3, .ref h4, .ref h5, .int v_padLength, .ref h6, .int v_at, .int v_letter, .int v_hasUnder, .ref h7, .int v_numbersMany])), (h1, .inl (cI, 2628, .inl v_state))]) hP hD [0, 1] [] rfl rfl (by decide) (by decide) hk1 hFc ht hB [0, 1] (by decide) rfl
    clear hPc hDc hFc hk1 hB ht hz1 hvm
    refine lv_isub hx hb dX7_bitOf_30 ?_
    refine lv_aload_n hx hb dX7_bitOf_31 rfl (lv_at hl 2 rfl) ?_
    refine lv_iload_n hx hb dX7_bitOf_32 rfl (lv_at hl 1 rfl) ?_
    obtain ⟨q5, hq5, hd⟩ := bnd_some hd
    have hPc : va_P (dC, dI) vwCl [(h0, .inr (7, [.ref h1, .ref h2, .int v_recorded, .ref h3, .ref h4, .ref h5, .int v_padLength, .ref h6, .int v_at, .int v_letter, .int v_hasUnder, .ref h7, .int v_numbersMany])), (h1, .inl (cI, 2628, .inl v_state))] _ := hP.sub [0, 1] rfl
    have hDc := hD.sub (ws' := [(h0, .inr (7, [.ref h1, .ref h2, .int v_recorded, .ref h3, .ref h4, .ref h5, .int v_padLength, .ref h6, .int v_at, .int v_letter, .int v_hasUnder, .ref h7, .int v_numbersMany])), (h1, .inl (cI, 2628, .inl v_state))]) [0, 1] (by decide) rfl
    have hFc := va_free (wc := [(h0, .inr (7, [.ref h1, .ref h2, .int v_recorded, .ref h3, .ref h4, .ref h5, .int v_padLength, .ref h6, .int v_at, .int v_letter, .int v_hasUnder, .ref h7, .int v_numbersMany])), (h1, .inl (cI, 2628, .inl v_state))]) hD hS hA [0, 1] rfl
    refine va_calli (va_runV (As := [.int q1]) (rest := [.int (p1 - q4), .int q2, .int q1, .ref h0]) ⟨hx, hb, hml, hown, hts⟩ (c_X7_tellingSize l dC dI cI cC cT h0 h1 h2 h3 h4 h5 h6 h7 H.size v_state v_recorded v_padLength v_at v_letter v_hasUnder v_numbersMany q1 q5 hq5) (cwV 1 hts gX7_bitOf_X7_tellingSize rfl rfl rfl hv_X7_tellingSize ⟨Nat.le_of_ble_eq_true rfl, Nat.le_of_ble_eq_true rfl⟩) ⟨preB_fb, va_recv hK hPc (ci := 7) (q0 := 0) rfl rfl, fun U hU hW => preB_mk hU hW hPc hK hDc hN⟩ rfl rfl hl.1 rfl (lv_room (Nat.le_of_ble_eq_true rfl)) dX7_bitOf_33 ⟨Nat.zero_le _, Nat.zero_le _⟩) hS (fun q _ h => hFc q h) hFc (fun r_ u_ t H locs ht hvm hw hB hz1 hk1 hS => ?_)
    have hw : r_ = q5 := hw
    have hw := hw.symm
    subst hw
    obtain ⟨hP, hD⟩ := x_join (ws' := [(h0, .inr (7, [.ref h1, .ref h2, .int v_recorded, .ref h3, .ref h4, .ref h5, .int v_padLength, .ref h6, .int v_at, .int v_letter, .int v_hasUnder, .ref h7, .int v_numbersMany])), (h1, .inl (cI, 2628, .inl v_state))]) hP hD [0, 1] [] rfl rfl (by decide) (by decide) hk1 hFc ht hB [0, 1] (by decide) rfl
    clear hPc hDc hFc hk1 hB ht hz1 hvm
    obtain ⟨g6, hd⟩ := gd_some hd
    refine lv_irem hx hb dX7_bitOf_36 (of_decide_eq_true g6) ?_
    obtain ⟨q7, hq7, hd⟩ := bnd_some hd
    have hPc : va_P (dC, dI) vwCl [(h0, .inr (7, [.ref h1, .ref h2, .int v_recorded, .ref h3, .ref h4, .ref h5, .int v_padLength, .ref h6, .int v_at, .int v_letter, .int v_hasUnder, .ref h7, .int v_numbersMany])), (h1, .inl (cI, 2628, .inl v_state))] _ := hP.sub [0, 1] rfl
    have hDc := hD.sub (ws' := [(h0, .inr (7, [.ref h1, .ref h2, .int v_recorded, .ref h3, .ref h4, .ref h5, .int v_padLength, .ref h6, .int v_at, .int v_letter, .int v_hasUnder, .ref h7, .int v_numbersMany])), (h1, .inl (cI, 2628, .inl v_state))]) [0, 1] (by decide) rfl
    have hFc := va_free (wc := [(h0, .inr (7, [.ref h1, .ref h2, .int v_recorded, .ref h3, .ref h4, .ref h5, .int v_padLength, .ref h6, .int v_at, .int v_letter, .int v_hasUnder, .ref h7, .int v_numbersMany])), (h1, .inl (cI, 2628, .inl v_state))]) hD hS hA [0, 1] rfl
    refine va_calli (va_runV (As := [.int q1, .int q2, .int ((p1 - q4) - (p1 - q4) / q5 * q5)]) (rest := []) ⟨hx, hb, hml, hown, hts⟩ (c_X7_bitAt l dC dI cI cC cT h0 h1 h2 h3 h4 h5 h6 h7 H.size v_state v_recorded v_padLength v_at v_letter v_hasUnder v_numbersMany q1 q2 ((p1 - q4) - (p1 - q4) / q5 * q5) q7 hq7) (cwV 3 hts gX7_bitOf_X7_bitAt rfl rfl rfl hv_X7_bitAt ⟨Nat.le_of_ble_eq_true rfl, Nat.le_of_ble_eq_true rfl⟩) ⟨preB_fb, va_recv hK hPc (ci := 7) (q0 := 0) rfl rfl, fun U hU hW => preB_mk hU hW hPc hK hDc hN⟩ rfl rfl hl.1 rfl (lv_room (Nat.le_of_ble_eq_true rfl)) dX7_bitOf_37 ⟨Nat.zero_le _, Nat.zero_le _⟩) hS (fun q _ h => hFc q h) hFc (fun r_ u_ t H locs ht hvm hw hB hz1 hk1 hS => ?_)
    have hw : r_ = q7 := hw
    have hw := hw.symm
    subst hw
    obtain ⟨hP, hD⟩ := x_join (ws' := [(h0, .inr (7, [.ref h1, .ref h2, .int v_recorded, .ref h3, .ref h4, .ref h5, .int v_padLength, .ref h6, .int v_at, .int v_letter, .int v_hasUnder, .ref h7, .int v_numbersMany])), (h1, .inl (cI, 2628, .inl v_state))]) hP hD [0, 1] [] rfl rfl (by decide) (by decide) hk1 hFc ht hB [0, 1] (by decide) rfl
    clear hPc hDc hFc hk1 hB ht hz1 hvm
    cases hd
    exact hend (by rfl) hP hD hS dX7_bitOf_40
  · replace hd := ite_t c3 hd
    refine lv_iconst (v := 0) hx hb dX7_bitOf_17 (by decide) ?_
    refine lv_goto (tgt := 40) hx hb dX7_bitOf_18 (by decide) ?_
    cases hd
    exact hend (by rfl) hP hD hS dX7_bitOf_40
def rmX7_cell : Room := { frames := 7, cells := 0, slots := 0, locals := 154 }
theorem hp_X7_cell : yX7_cell.cls ≠ "java/lang/invoke/MethodHandle" ∧ yX7_cell.cls ≠ "java/lang/invoke/VarHandle" ∧ (parseMethodDescriptor yX7_cell.desc).map (fun d => d.parameters.length) = some 2 := by decide +kernel
theorem hv_X7_cell : yX7_cell.cls = RX7 ∧ yX7_cell.cls ≠ "java/lang/invoke/MethodHandle" ∧ yX7_cell.cls ≠ "java/lang/invoke/VarHandle" ∧ (parseMethodDescriptor yX7_cell.desc).map (fun d => d.parameters.length) = some 2 := by decide +kernel
set_option maxHeartbeats 4000000 in
set_option maxRecDepth 100000 in
theorem c_X7_cell (l : Launch) (dC : Nat → ClassId) (dI : Nat → Nat → Nat) (cI cC cT : ClassId) (h0 h1 h2 h3 h4 h5 h6 h7 : Nat) (sz : Nat) (v_state : (Nat → Int32)) (v_recorded : Int32) (v_padLength : Int32) (v_at : Int32) (v_letter : Int32) (v_hasUnder : Int32) (v_numbersMany : Int32) (p1 : Int32) (p2 : Int32) (r : Int32) (hd : den_X7_cell v_state p1 p2 = some r) : Met l yX7_cell wsX7_cell rmX7_cell (va_Pc [.ref h0, .int p1, .int p2] (preB sz (dC, dI) [(h0, .inr (7, [.ref h1, .ref h2, .int v_recorded, .ref h3, .ref h4, .ref h5, .int v_padLength, .ref h6, .int v_at, .int v_letter, .int v_hasUnder, .ref h7, .int v_numbersMany])), (h1, .inl (cI, 2628, .inl v_state))] [(cI, .int), (cC, .char), (cT, .object "CassetteTones$Tape")])) (va_Qi (S := Unit) (fun v _ => v = r) (fun _ t => posB (dC, dI) [(h0, .inr (7, [.ref h1, .ref h2, .int v_recorded, .ref h3, .ref h4, .ref h5, .int v_padLength, .ref h6, .int v_at, .int v_letter, .int v_hasUnder, .ref h7, .int v_numbersMany])), (h1, .inl (cI, 2628, .inl v_state))] [(cI, .int), (cC, .char), (cT, .object "CassetteTones$Tape")] (va_A [(h0, .inr (7, [.ref h1, .ref h2, .int v_recorded, .ref h3, .ref h4, .ref h5, .int v_padLength, .ref h6, .int v_at, .int v_letter, .int v_hasUnder, .ref h7, .int v_numbersMany])), (h1, .inl (cI, 2628, .inl v_state))] sz) t) (va_A [(h0, .inr (7, [.ref h1, .ref h2, .int v_recorded, .ref h3, .ref h4, .ref h5, .int v_padLength, .ref h6, .int v_at, .int v_letter, .int v_hasUnder, .ref h7, .int v_numbersMany])), (h1, .inl (cI, 2628, .inl v_state))] sz)) 0 0 (va_A [(h0, .inr (7, [.ref h1, .ref h2, .int v_recorded, .ref h3, .ref h4, .ref h5, .int v_padLength, .ref h6, .int v_at, .int v_letter, .int v_hasUnder, .ref h7, .int v_numbersMany])), (h1, .inl (cI, 2628, .inl v_state))] sz) := by
  refine x_met_i (by decide) rfl (Nat.le_of_ble_eq_true rfl) ?_
  intro p e s m args below meth c A Q H locs ls hx hb hml hown hts hK hN hA hP hD hS hl hend
  have hown : s.vm.findClass RX7 = some m.cls := hown
  have hl : lv_has ls 3 [(0, .ref h0), (1, .int p1), (2, .int p2)] := hl
  unfold den_X7_cell at hd
  refine lv_aload_n hx hb dX7_cell_0 rfl (lv_at hl 0 rfl) ?_
  refine lv_iload_n hx hb dX7_cell_1 rfl (lv_at hl 1 rfl) ?_
  obtain ⟨q1, hq1, hd⟩ := bnd_some hd
  have hPc : va_P (dC, dI) vwCl [(h0, .inr (7, [.ref h1, .ref h2, .int v_recorded, .ref h3, .ref h4, .ref h5, .int v_padLength, .ref h6, .int v_at, .int v_letter, .int v_hasUnder, .ref h7, .int v_numbersMany])), (h1, .inl (cI, 2628, .inl v_state))] _ := hP.sub [0, 1] rfl
  have hDc := hD.sub (ws' := [(h0, .inr (7, [.ref h1, .ref h2, .int v_recorded, .ref h3, .ref h4, .ref h5, .int v_padLength, .ref h6, .int v_at, .int v_letter, .int v_hasUnder, .ref h7, .int v_numbersMany])), (h1, .inl (cI, 2628, .inl v_state))]) [0, 1] (by decide) rfl
  have hFc := va_free (wc := [(h0, .inr (7, [.ref h1, .ref h2, .int v_recorded, .ref h3, .ref h4, .ref h5, .int v_padLength, .ref h6, .int v_at, .int v_letter, .int v_hasUnder, .ref h7, .int v_numbersMany])), (h1, .inl (cI, 2628, .inl v_state))]) hD hS hA [0, 1] rfl
  refine va_calli (va_runV (As := [.int p1]) (rest := []) ⟨hx, hb, hml, hown, hts⟩ (c_X7_isCell l dC dI cI cC cT h0 h1 h2 h3 h4 h5 h6 h7 H.size v_state v_recorded v_padLength v_at v_letter v_hasUnder v_numbersMany p1 q1 hq1) (cwV 1 hts gX7_cell_X7_isCell rfl rfl rfl hv_X7_isCell ⟨Nat.le_of_ble_eq_true rfl, Nat.le_of_ble_eq_true rfl⟩) ⟨preB_fb, va_recv hK hPc (ci := 7) (q0 := 0) rfl rfl, fun U hU hW => preB_mk hU hW hPc hK hDc hN⟩ rfl rfl hl.1 rfl (lv_room (Nat.le_of_ble_eq_true rfl)) dX7_cell_2 ⟨Nat.zero_le _, Nat.zero_le _⟩) hS (fun q _ h => hFc q h) hFc (fun r_ u_ t H locs ht hvm hw hB hz1 hk1 hS => ?_)
  have hw : r_ = q1 := hw
  have hw := hw.symm
  subst hw
  obtain ⟨hP, hD⟩ := x_join (ws' := [(h0, .inr (7, [.ref h1, .ref h2, .int v_recorded, .ref h3, .ref h4, .ref h5, .int v_padLength, .ref h6, .int v_at, .int v_letter, .int v_hasUnder, .ref h7, .int v_numbersMany])), (h1, .inl (cI, 2628, .inl v_state))]) hP hD [0, 1] [] rfl rfl (by decide) (by decide) hk1 hFc ht hB [0, 1] (by decide) rfl
  clear hPc hDc hFc hk1 hB ht hz1 hvm
  refine lv_if_ne (tgt := 10) hx hb dX7_cell_5 (by decide) (fun c2 => ?_) (fun c2 => ?_)
  · replace hd := ite_f c2 hd
    refine lv_iload_n hx hb dX7_cell_10 rfl (lv_at hl 2 rfl) ?_
    by_cases c3 : p2 = (0 : Int32)
    · replace hd := ite_t c3 hd
      refine lv_tableIn (off := 37) (tgt := 48) hx hb dX7_cell_11 (by rw [c3]; decide) (by rw [c3]; decide) (by rw [c3]; rfl) (by decide) ?_
      refine lv_aload_n hx hb dX7_cell_48 rfl (lv_at hl 0 rfl) ?_
      refine lv_iload_n hx hb dX7_cell_49 rfl (lv_at hl 1 rfl) ?_
      obtain ⟨q4, hq4, hd⟩ := bnd_some hd
      have hPc : va_P (dC, dI) vwCl [(h0, .inr (7, [.ref h1, .ref h2, .int v_recorded, .ref h3, .ref h4, .ref h5, .int v_padLength, .ref h6, .int v_at, .int v_letter, .int v_hasUnder, .ref h7, .int v_numbersMany])), (h1, .inl (cI, 2628, .inl v_state))] _ := hP.sub [0, 1] rfl
      have hDc := hD.sub (ws' := [(h0, .inr (7, [.ref h1, .ref h2, .int v_recorded, .ref h3, .ref h4, .ref h5, .int v_padLength, .ref h6, .int v_at, .int v_letter, .int v_hasUnder, .ref h7, .int v_numbersMany])), (h1, .inl (cI, 2628, .inl v_state))]) [0, 1] (by decide) rfl
      have hFc := va_free (wc := [(h0, .inr (7, [.ref h1, .ref h2, .int v_recorded, .ref h3, .ref h4, .ref h5, .int v_padLength, .ref h6, .int v_at, .int v_letter, .int v_hasUnder, .ref h7, .int v_numbersMany])), (h1, .inl (cI, 2628, .inl v_state))]) hD hS hA [0, 1] rfl
      refine va_calli (va_runV (As := [.int p1]) (rest := []) ⟨hx, hb, hml, hown, hts⟩ (c_X7_volumeOf l dC dI cI cC cT h0 h1 h2 h3 h4 h5 h6 h7 H.size v_state v_recorded v_padLength v_at v_letter v_hasUnder v_numbersMany p1 q4 hq4) (cwV 1 hts gX7_cell_X7_volumeOf rfl rfl rfl hv_X7_volumeOf ⟨Nat.le_of_ble_eq_true rfl, Nat.le_of_ble_eq_true rfl⟩) ⟨preB_fb, va_recv hK hPc (ci := 7) (q0 := 0) rfl rfl, fun U hU hW => preB_mk hU hW hPc hK hDc hN⟩ rfl rfl hl.1 rfl (lv_room (Nat.le_of_ble_eq_true rfl)) dX7_cell_50 ⟨Nat.zero_le _, Nat.zero_le _⟩) hS (fun q _ h => hFc q h) hFc (fun r_ u_ t H locs ht hvm hw hB hz1 hk1 hS => ?_)
      have hw : r_ = q4 := hw
      have hw := hw.symm
      subst hw
      obtain ⟨hP, hD⟩ := x_join (ws' := [(h0, .inr (7, [.ref h1, .ref h2, .int v_recorded, .ref h3, .ref h4, .ref h5, .int v_padLength, .ref h6, .int v_at, .int v_letter, .int v_hasUnder, .ref h7, .int v_numbersMany])), (h1, .inl (cI, 2628, .inl v_state))]) hP hD [0, 1] [] rfl rfl (by decide) (by decide) hk1 hFc ht hB [0, 1] (by decide) rfl
      clear hPc hDc hFc hk1 hB ht hz1 hvm
      cases hd
      exact hend (by rfl) hP hD hS dX7_cell_53
    · replace hd := ite_f c3 hd
      by_cases c5 : p2 = (1 : Int32)
      · replace hd := ite_t c5 hd
        refine lv_tableIn (off := 43) (tgt := 54) hx hb dX7_cell_11 (by rw [c5]; decide) (by rw [c5]; decide) (by rw [c5]; rfl) (by decide) ?_
        refine lv_aload_n hx hb dX7_cell_54 rfl (lv_at hl 0 rfl) ?_
        refine lv_iload_n hx hb dX7_cell_55 rfl (lv_at hl 1 rfl) ?_
        obtain ⟨q6, hq6, hd⟩ := bnd_some hd
        have hPc : va_P (dC, dI) vwCl [(h0, .inr (7, [.ref h1, .ref h2, .int v_recorded, .ref h3, .ref h4, .ref h5, .int v_padLength, .ref h6, .int v_at, .int v_letter, .int v_hasUnder, .ref h7, .int v_numbersMany])), (h1, .inl (cI, 2628, .inl v_state))] _ := hP.sub [0, 1] rfl
        have hDc := hD.sub (ws' := [(h0, .inr (7, [.ref h1, .ref h2, .int v_recorded, .ref h3, .ref h4, .ref h5, .int v_padLength, .ref h6, .int v_at, .int v_letter, .int v_hasUnder, .ref h7, .int v_numbersMany])), (h1, .inl (cI, 2628, .inl v_state))]) [0, 1] (by decide) rfl
        have hFc := va_free (wc := [(h0, .inr (7, [.ref h1, .ref h2, .int v_recorded, .ref h3, .ref h4, .ref h5, .int v_padLength, .ref h6, .int v_at, .int v_letter, .int v_hasUnder, .ref h7, .int v_numbersMany])), (h1, .inl (cI, 2628, .inl v_state))]) hD hS hA [0, 1] rfl
        refine va_calli (va_runV (As := [.int p1]) (rest := []) ⟨hx, hb, hml, hown, hts⟩ (c_X7_badness l dC dI cI cC cT h0 h1 h2 h3 h4 h5 h6 h7 H.size v_state v_recorded v_padLength v_at v_letter v_hasUnder v_numbersMany p1 q6 hq6) (cwV 1 hts gX7_cell_X7_badness rfl rfl rfl hv_X7_badness ⟨Nat.le_of_ble_eq_true rfl, Nat.le_of_ble_eq_true rfl⟩) ⟨preB_fb, va_recv hK hPc (ci := 7) (q0 := 0) rfl rfl, fun U hU hW => preB_mk hU hW hPc hK hDc hN⟩ rfl rfl hl.1 rfl (lv_room (Nat.le_of_ble_eq_true rfl)) dX7_cell_56 ⟨Nat.zero_le _, Nat.zero_le _⟩) hS (fun q _ h => hFc q h) hFc (fun r_ u_ t H locs ht hvm hw hB hz1 hk1 hS => ?_)
        have hw : r_ = q6 := hw
        have hw := hw.symm
        subst hw
        obtain ⟨hP, hD⟩ := x_join (ws' := [(h0, .inr (7, [.ref h1, .ref h2, .int v_recorded, .ref h3, .ref h4, .ref h5, .int v_padLength, .ref h6, .int v_at, .int v_letter, .int v_hasUnder, .ref h7, .int v_numbersMany])), (h1, .inl (cI, 2628, .inl v_state))]) hP hD [0, 1] [] rfl rfl (by decide) (by decide) hk1 hFc ht hB [0, 1] (by decide) rfl
        clear hPc hDc hFc hk1 hB ht hz1 hvm
        cases hd
        exact hend (by rfl) hP hD hS dX7_cell_59
      · replace hd := ite_f c5 hd
        by_cases c7 : p2 = (2 : Int32)
        · replace hd := ite_t c7 hd
          refine lv_tableIn (off := 49) (tgt := 60) hx hb dX7_cell_11 (by rw [c7]; decide) (by rw [c7]; decide) (by rw [c7]; rfl) (by decide) ?_
          refine lv_aload_n hx hb dX7_cell_60 rfl (lv_at hl 0 rfl) ?_
          refine lv_iload_n hx hb dX7_cell_61 rfl (lv_at hl 1 rfl) ?_
          obtain ⟨q8, hq8, hd⟩ := bnd_some hd
          have hPc : va_P (dC, dI) vwCl [(h0, .inr (7, [.ref h1, .ref h2, .int v_recorded, .ref h3, .ref h4, .ref h5, .int v_padLength, .ref h6, .int v_at, .int v_letter, .int v_hasUnder, .ref h7, .int v_numbersMany])), (h1, .inl (cI, 2628, .inl v_state))] _ := hP.sub [0, 1] rfl
          have hDc := hD.sub (ws' := [(h0, .inr (7, [.ref h1, .ref h2, .int v_recorded, .ref h3, .ref h4, .ref h5, .int v_padLength, .ref h6, .int v_at, .int v_letter, .int v_hasUnder, .ref h7, .int v_numbersMany])), (h1, .inl (cI, 2628, .inl v_state))]) [0, 1] (by decide) rfl
          have hFc := va_free (wc := [(h0, .inr (7, [.ref h1, .ref h2, .int v_recorded, .ref h3, .ref h4, .ref h5, .int v_padLength, .ref h6, .int v_at, .int v_letter, .int v_hasUnder, .ref h7, .int v_numbersMany])), (h1, .inl (cI, 2628, .inl v_state))]) hD hS hA [0, 1] rfl
          refine va_calli (va_runV (As := [.int p1]) (rest := []) ⟨hx, hb, hml, hown, hts⟩ (c_X7_bitOf l dC dI cI cC cT h0 h1 h2 h3 h4 h5 h6 h7 H.size v_state v_recorded v_padLength v_at v_letter v_hasUnder v_numbersMany p1 q8 hq8) (cwV 1 hts gX7_cell_X7_bitOf rfl rfl rfl hv_X7_bitOf ⟨Nat.le_of_ble_eq_true rfl, Nat.le_of_ble_eq_true rfl⟩) ⟨preB_fb, va_recv hK hPc (ci := 7) (q0 := 0) rfl rfl, fun U hU hW => preB_mk hU hW hPc hK hDc hN⟩ rfl rfl hl.1 rfl (lv_room (Nat.le_of_ble_eq_true rfl)) dX7_cell_62 ⟨Nat.zero_le _, Nat.zero_le _⟩) hS (fun q _ h => hFc q h) hFc (fun r_ u_ t H locs ht hvm hw hB hz1 hk1 hS => ?_)
          have hw : r_ = q8 := hw
          have hw := hw.symm
          subst hw
          obtain ⟨hP, hD⟩ := x_join (ws' := [(h0, .inr (7, [.ref h1, .ref h2, .int v_recorded, .ref h3, .ref h4, .ref h5, .int v_padLength, .ref h6, .int v_at, .int v_letter, .int v_hasUnder, .ref h7, .int v_numbersMany])), (h1, .inl (cI, 2628, .inl v_state))]) hP hD [0, 1] [] rfl rfl (by decide) (by decide) hk1 hFc ht hB [0, 1] (by decide) rfl
          clear hPc hDc hFc hk1 hB ht hz1 hvm
          cases hd
          exact hend (by rfl) hP hD hS dX7_cell_65
        · replace hd := ite_f c7 hd
          by_cases c9 : p2 = (3 : Int32)
          · replace hd := ite_t c9 hd
            refine lv_tableIn (off := 55) (tgt := 66) hx hb dX7_cell_11 (by rw [c9]; decide) (by rw [c9]; decide) (by rw [c9]; rfl) (by decide) ?_
            refine lv_aload_n hx hb dX7_cell_66 rfl (lv_at hl 0 rfl) ?_
            refine lv_iload_n hx hb dX7_cell_67 rfl (lv_at hl 1 rfl) ?_
            obtain ⟨q10, hq10, hd⟩ := bnd_some hd
            have hPc : va_P (dC, dI) vwCl [(h0, .inr (7, [.ref h1, .ref h2, .int v_recorded, .ref h3, .ref h4, .ref h5, .int v_padLength, .ref h6, .int v_at, .int v_letter, .int v_hasUnder, .ref h7, .int v_numbersMany])), (h1, .inl (cI, 2628, .inl v_state))] _ := hP.sub [0, 1] rfl
            have hDc := hD.sub (ws' := [(h0, .inr (7, [.ref h1, .ref h2, .int v_recorded, .ref h3, .ref h4, .ref h5, .int v_padLength, .ref h6, .int v_at, .int v_letter, .int v_hasUnder, .ref h7, .int v_numbersMany])), (h1, .inl (cI, 2628, .inl v_state))]) [0, 1] (by decide) rfl
            have hFc := va_free (wc := [(h0, .inr (7, [.ref h1, .ref h2, .int v_recorded, .ref h3, .ref h4, .ref h5, .int v_padLength, .ref h6, .int v_at, .int v_letter, .int v_hasUnder, .ref h7, .int v_numbersMany])), (h1, .inl (cI, 2628, .inl v_state))]) hD hS hA [0, 1] rfl
            refine va_calli (va_runV (As := [.int p1]) (rest := []) ⟨hx, hb, hml, hown, hts⟩ (c_X7_blockOf l dC dI cI cC cT h0 h1 h2 h3 h4 h5 h6 h7 H.size v_state v_recorded v_padLength v_at v_letter v_hasUnder v_numbersMany p1 q10 hq10) (cwV 1 hts gX7_cell_X7_blockOf rfl rfl rfl hv_X7_blockOf ⟨Nat.le_of_ble_eq_true rfl, Nat.le_of_ble_eq_true rfl⟩) ⟨preB_fb, va_recv hK hPc (ci := 7) (q0 := 0) rfl rfl, fun U hU hW => preB_mk hU hW hPc hK hDc hN⟩ rfl rfl hl.1 rfl (lv_room (Nat.le_of_ble_eq_true rfl)) dX7_cell_68 ⟨Nat.zero_le _, Nat.zero_le _⟩) hS (fun q _ h => hFc q h) hFc (fun r_ u_ t H locs ht hvm hw hB hz1 hk1 hS => ?_)
            have hw : r_ = q10 := hw
            have hw := hw.symm
            subst hw
            obtain ⟨hP, hD⟩ := x_join (ws' := [(h0, .inr (7, [.ref h1, .ref h2, .int v_recorded, .ref h3, .ref h4, .ref h5, .int v_padLength, .ref h6, .int v_at, .int v_letter, .int v_hasUnder, .ref h7, .int v_numbersMany])), (h1, .inl (cI, 2628, .inl v_state))]) hP hD [0, 1] [] rfl rfl (by decide) (by decide) hk1 hFc ht hB [0, 1] (by decide) rfl
            clear hPc hDc hFc hk1 hB ht hz1 hvm
            cases hd
            exact hend (by rfl) hP hD hS dX7_cell_71
          · replace hd := ite_f c9 hd
            by_cases c11 : p2 = (4 : Int32)
            · replace hd := ite_t c11 hd
              refine lv_tableIn (off := 61) (tgt := 72) hx hb dX7_cell_11 (by rw [c11]; decide) (by rw [c11]; decide) (by rw [c11]; rfl) (by decide) ?_
              refine lv_aload_n hx hb dX7_cell_72 rfl (lv_at hl 0 rfl) ?_
              refine lv_iload_n hx hb dX7_cell_73 rfl (lv_at hl 1 rfl) ?_
              obtain ⟨q12, hq12, hd⟩ := bnd_some hd
              have hPc : va_P (dC, dI) vwCl [(h0, .inr (7, [.ref h1, .ref h2, .int v_recorded, .ref h3, .ref h4, .ref h5, .int v_padLength, .ref h6, .int v_at, .int v_letter, .int v_hasUnder, .ref h7, .int v_numbersMany])), (h1, .inl (cI, 2628, .inl v_state))] _ := hP.sub [0, 1] rfl
              have hDc := hD.sub (ws' := [(h0, .inr (7, [.ref h1, .ref h2, .int v_recorded, .ref h3, .ref h4, .ref h5, .int v_padLength, .ref h6, .int v_at, .int v_letter, .int v_hasUnder, .ref h7, .int v_numbersMany])), (h1, .inl (cI, 2628, .inl v_state))]) [0, 1] (by decide) rfl
              have hFc := va_free (wc := [(h0, .inr (7, [.ref h1, .ref h2, .int v_recorded, .ref h3, .ref h4, .ref h5, .int v_padLength, .ref h6, .int v_at, .int v_letter, .int v_hasUnder, .ref h7, .int v_numbersMany])), (h1, .inl (cI, 2628, .inl v_state))]) hD hS hA [0, 1] rfl
              refine va_calli (va_runV (As := [.int p1]) (rest := []) ⟨hx, hb, hml, hown, hts⟩ (c_X7_whereIn l dC dI cI cC cT h0 h1 h2 h3 h4 h5 h6 h7 H.size v_state v_recorded v_padLength v_at v_letter v_hasUnder v_numbersMany p1 q12 hq12) (cwV 1 hts gX7_cell_X7_whereIn rfl rfl rfl hv_X7_whereIn ⟨Nat.le_of_ble_eq_true rfl, Nat.le_of_ble_eq_true rfl⟩) ⟨preB_fb, va_recv hK hPc (ci := 7) (q0 := 0) rfl rfl, fun U hU hW => preB_mk hU hW hPc hK hDc hN⟩ rfl rfl hl.1 rfl (lv_room (Nat.le_of_ble_eq_true rfl)) dX7_cell_74 ⟨Nat.zero_le _, Nat.zero_le _⟩) hS (fun q _ h => hFc q h) hFc (fun r_ u_ t H locs ht hvm hw hB hz1 hk1 hS => ?_)
              have hw : r_ = q12 := hw
              have hw := hw.symm
              subst hw
              obtain ⟨hP, hD⟩ := x_join (ws' := [(h0, .inr (7, [.ref h1, .ref h2, .int v_recorded, .ref h3, .ref h4, .ref h5, .int v_padLength, .ref h6, .int v_at, .int v_letter, .int v_hasUnder, .ref h7, .int v_numbersMany])), (h1, .inl (cI, 2628, .inl v_state))]) hP hD [0, 1] [] rfl rfl (by decide) (by decide) hk1 hFc ht hB [0, 1] (by decide) rfl
              clear hPc hDc hFc hk1 hB ht hz1 hvm
              cases hd
              exact hend (by rfl) hP hD hS dX7_cell_77
            · replace hd := ite_f c11 hd
              by_cases c13 : p2 = (5 : Int32)
              · replace hd := ite_t c13 hd
                refine lv_tableIn (off := 67) (tgt := 78) hx hb dX7_cell_11 (by rw [c13]; decide) (by rw [c13]; decide) (by rw [c13]; rfl) (by decide) ?_
                refine lv_aload_n hx hb dX7_cell_78 rfl (lv_at hl 0 rfl) ?_
                refine lv_iload_n hx hb dX7_cell_79 rfl (lv_at hl 1 rfl) ?_
                obtain ⟨q14, hq14, hd⟩ := bnd_some hd
                have hPc : va_P (dC, dI) vwCl [(h0, .inr (7, [.ref h1, .ref h2, .int v_recorded, .ref h3, .ref h4, .ref h5, .int v_padLength, .ref h6, .int v_at, .int v_letter, .int v_hasUnder, .ref h7, .int v_numbersMany])), (h1, .inl (cI, 2628, .inl v_state))] _ := hP.sub [0, 1] rfl
                have hDc := hD.sub (ws' := [(h0, .inr (7, [.ref h1, .ref h2, .int v_recorded, .ref h3, .ref h4, .ref h5, .int v_padLength, .ref h6, .int v_at, .int v_letter, .int v_hasUnder, .ref h7, .int v_numbersMany])), (h1, .inl (cI, 2628, .inl v_state))]) [0, 1] (by decide) rfl
                have hFc := va_free (wc := [(h0, .inr (7, [.ref h1, .ref h2, .int v_recorded, .ref h3, .ref h4, .ref h5, .int v_padLength, .ref h6, .int v_at, .int v_letter, .int v_hasUnder, .ref h7, .int v_numbersMany])), (h1, .inl (cI, 2628, .inl v_state))]) hD hS hA [0, 1] rfl
                refine va_calli (va_runV (As := [.int p1]) (rest := []) ⟨hx, hb, hml, hown, hts⟩ (c_X7_counterOf l dC dI cI cC cT h0 h1 h2 h3 h4 h5 h6 h7 H.size v_state v_recorded v_padLength v_at v_letter v_hasUnder v_numbersMany p1 q14 hq14) (cwV 1 hts gX7_cell_X7_counterOf rfl rfl rfl hv_X7_counterOf ⟨Nat.le_of_ble_eq_true rfl, Nat.le_of_ble_eq_true rfl⟩) ⟨preB_fb, va_recv hK hPc (ci := 7) (q0 := 0) rfl rfl, fun U hU hW => preB_mk hU hW hPc hK hDc hN⟩ rfl rfl hl.1 rfl (lv_room (Nat.le_of_ble_eq_true rfl)) dX7_cell_80 ⟨Nat.zero_le _, Nat.zero_le _⟩) hS (fun q _ h => hFc q h) hFc (fun r_ u_ t H locs ht hvm hw hB hz1 hk1 hS => ?_)
                have hw : r_ = q14 := hw
                have hw := hw.symm
                subst hw
                obtain ⟨hP, hD⟩ := x_join (ws' := [(h0, .inr (7, [.ref h1, .ref h2, .int v_recorded, .ref h3, .ref h4, .ref h5, .int v_padLength, .ref h6, .int v_at, .int v_letter, .int v_hasUnder, .ref h7, .int v_numbersMany])), (h1, .inl (cI, 2628, .inl v_state))]) hP hD [0, 1] [] rfl rfl (by decide) (by decide) hk1 hFc ht hB [0, 1] (by decide) rfl
                clear hPc hDc hFc hk1 hB ht hz1 hvm
                cases hd
                exact hend (by rfl) hP hD hS dX7_cell_83
              · replace hd := ite_f c13 hd
                refine lv_tableOut (tgt := 84) hx hb dX7_cell_11 (by have n0 := lv_neT (a := 0) c3 (by decide); have n1 := lv_neT (a := 1) c5 (by decide); have n2 := lv_neT (a := 2) c7 (by decide); have n3 := lv_neT (a := 3) c9 (by decide); have n4 := lv_neT (a := 4) c11 (by decide); have n5 := lv_neT (a := 5) c13 (by decide); omega) (by decide) ?_
                refine lv_bipush (v := -2) hx hb dX7_cell_84 (by decide) ?_
                cases hd
                exact hend (by rfl) hP hD hS dX7_cell_86
  · replace hd := ite_t c2 hd
    refine lv_iconst (v := -1) hx hb dX7_cell_8 (by decide) ?_
    cases hd
    exact hend (by rfl) hP hD hS dX7_cell_9
def rmX7_loadedSet : Room := { frames := 8, cells := 0, slots := 0, locals := 189 }
theorem kX7_loadedSet_1 : (Cond.fieldLink RX7 7 "CassetteTonesModel" "state" "[I") ∈ wsX7_loadedSet := List.mem_of_getElem? (i := 1) (by decide +kernel)
theorem inX7_loadedSet_X7 : ∀ w ∈ wsX70, w ∈ wsX7_loadedSet := by decide +kernel
theorem hp_X7_loadedSet : yX7_loadedSet.cls ≠ "java/lang/invoke/MethodHandle" ∧ yX7_loadedSet.cls ≠ "java/lang/invoke/VarHandle" ∧ (parseMethodDescriptor yX7_loadedSet.desc).map (fun d => d.parameters.length) = some 1 := by decide +kernel
theorem hv_X7_loadedSet : yX7_loadedSet.cls = RX7 ∧ yX7_loadedSet.cls ≠ "java/lang/invoke/MethodHandle" ∧ yX7_loadedSet.cls ≠ "java/lang/invoke/VarHandle" ∧ (parseMethodDescriptor yX7_loadedSet.desc).map (fun d => d.parameters.length) = some 1 := by decide +kernel
set_option maxHeartbeats 4000000 in
set_option maxRecDepth 100000 in
theorem c_X7_loadedSet (l : Launch) (dC : Nat → ClassId) (dI : Nat → Nat → Nat) (cI cC cT : ClassId) (h0 h1 h2 h3 h4 h5 h6 h7 : Nat) (sz : Nat) (v_state : (Nat → Int32)) (v_recorded : Int32) (v_padLength : Int32) (v_found : (Nat → Int32)) (v_at : Int32) (v_letter : Int32) (v_hasUnder : Int32) (v_numbersMany : Int32) (p1 : Int32) (r : (Int32 × (Nat → Int32))) (hd : den_X7_loadedSet v_state v_found p1 = some r) : Met l yX7_loadedSet wsX7_loadedSet rmX7_loadedSet (va_Pc [.ref h0, .int p1] (preB sz (dC, dI) [(h0, .inr (7, [.ref h1, .ref h2, .int v_recorded, .ref h3, .ref h4, .ref h5, .int v_padLength, .ref h6, .int v_at, .int v_letter, .int v_hasUnder, .ref h7, .int v_numbersMany])), (h1, .inl (cI, 2628, .inl v_state)), (h6, .inl (cI, 7, .inl v_found))] [(cI, .int), (cC, .char), (cT, .object "CassetteTones$Tape")])) (va_Qi (S := Unit) (fun v _ => v = r.1) (fun _ t => posB (dC, dI) [(h0, .inr (7, [.ref h1, .ref h2, .int v_recorded, .ref h3, .ref h4, .ref h5, .int v_padLength, .ref h6, .int v_at, .int v_letter, .int v_hasUnder, .ref h7, .int v_numbersMany])), (h1, .inl (cI, 2628, .inl v_state)), (h6, .inl (cI, 7, .inl r.2))] [(cI, .int), (cC, .char), (cT, .object "CassetteTones$Tape")] (va_A [(h0, .inr (7, [.ref h1, .ref h2, .int v_recorded, .ref h3, .ref h4, .ref h5, .int v_padLength, .ref h6, .int v_at, .int v_letter, .int v_hasUnder, .ref h7, .int v_numbersMany])), (h1, .inl (cI, 2628, .inl v_state)), (h6, .inl (cI, 7, .inl v_found))] sz) t) (va_A [(h0, .inr (7, [.ref h1, .ref h2, .int v_recorded, .ref h3, .ref h4, .ref h5, .int v_padLength, .ref h6, .int v_at, .int v_letter, .int v_hasUnder, .ref h7, .int v_numbersMany])), (h1, .inl (cI, 2628, .inl v_state)), (h6, .inl (cI, 7, .inl v_found))] sz)) 0 0 (va_A [(h0, .inr (7, [.ref h1, .ref h2, .int v_recorded, .ref h3, .ref h4, .ref h5, .int v_padLength, .ref h6, .int v_at, .int v_letter, .int v_hasUnder, .ref h7, .int v_numbersMany])), (h1, .inl (cI, 2628, .inl v_state)), (h6, .inl (cI, 7, .inl v_found))] sz) := by
  refine x_met_i (by decide) rfl (Nat.le_of_ble_eq_true rfl) ?_
  intro p e s m args below meth c A Q H locs ls hx hb hml hown hts hK hN hA hP hD hS hl hend
  have hown : s.vm.findClass RX7 = some m.cls := hown
  have hl : lv_has ls 5 [(0, .ref h0), (1, .int p1)] := hl
  unfold den_X7_loadedSet at hd
  refine lv_iconst (v := 0) hx hb dX7_loadedSet_0 (by decide) ?_
  refine lv_istore_n (lv' := [(2, .int (0 : Int32)), (0, .ref h0), (1, .int p1)]) hx hb dX7_loadedSet_1 rfl hl (by decide) rfl (fun ls hl => ?_)
  refine lv_iconst (v := 0) hx hb dX7_loadedSet_2 (by decide) ?_
  refine lv_istore_n (lv' := [(3, .int (0 : Int32)), (2, .int (0 : Int32)), (0, .ref h0), (1, .int p1)]) hx hb dX7_loadedSet_3 rfl hl (by decide) rfl (fun ls hl => ?_)
  obtain ⟨q1, hq1, hd⟩ := bnd_some hd
  have Kq1 : ∀ (H : Heap) (locs : List Loc) (ls : Array Slot), va_P (dC, dI) vwCl [(h0, .inr (7, [.ref h1, .ref h2, .int v_recorded, .ref h3, .ref h4, .ref h5, .int v_padLength, .ref h6, .int v_at, .int v_letter, .int v_hasUnder, .ref h7, .int v_numbersMany])), (h1, .inl (cI, 2628, .inl v_state)), (h6, .inl (cI, 7, .inl q1.2))] H → va_D A [(h0, .inr (7, [.ref h1, .ref h2, .int v_recorded, .ref h3, .ref h4, .ref h5, .int v_padLength, .ref h6, .int v_at, .int v_letter, .int v_hasUnder, .ref h7, .int v_numbersMany])), (h1, .inl (cI, 2628, .inl v_state)), (h6, .inl (cI, 7, .inl q1.2))] → va_S A s.heap H locs → lv_has ls 5 [(2, .int q1.1)] → W p l e rmX7_loadedSet s m args below meth c H locs 0 0 Q (F0 m 64 ls []) := by
    intro H locs ls hP hD hS hl
    refine lv_iload_n hx hb dX7_loadedSet_64 rfl (lv_at hl 0 rfl) ?_
    cases hd
    exact hend (by rfl) hP hD hS dX7_loadedSet_65
  clear hd
  have KL8 : ∀ (fu : Nat) (y2_4 : Int32) (y3_4 : Int32) (v_found_4 : (Nat → Int32)) (hd : den_X7_loadedSet_L4 p1 v_state fu y2_4 y3_4 v_found_4 = some q1) (H : Heap) (locs : List Loc) (ls : Array Slot), va_P (dC, dI) vwCl [(h0, .inr (7, [.ref h1, .ref h2, .int v_recorded, .ref h3, .ref h4, .ref h5, .int v_padLength, .ref h6, .int v_at, .int v_letter, .int v_hasUnder, .ref h7, .int v_numbersMany])), (h1, .inl (cI, 2628, .inl v_state)), (h6, .inl (cI, 7, .inl v_found_4))] H → va_D A [(h0, .inr (7, [.ref h1, .ref h2, .int v_recorded, .ref h3, .ref h4, .ref h5, .int v_padLength, .ref h6, .int v_at, .int v_letter, .int v_hasUnder, .ref h7, .int v_numbersMany])), (h1, .inl (cI, 2628, .inl v_state)), (h6, .inl (cI, 7, .inl v_found_4))] → va_S A s.heap H locs → lv_has ls 5 [(0, .ref h0), (1, .int p1), (2, .int y2_4), (3, .int y3_4)] → W p l e rmX7_loadedSet s m args below meth c H locs 0 0 Q (F0 m 4 ls []) := by
    intro fu
    induction fu with
    | zero => intro y2_4 y3_4 v_found_4 hd; exact no_some hd
    | succ fu ih =>
      intro y2_4 y3_4 v_found_4 hd H locs ls hP hD hS hl
      rw [den_X7_loadedSet_L4] at hd
      refine lv_iload_n hx hb dX7_loadedSet_4 rfl (lv_at hl 3 rfl) ?_
      refine lv_aload_n hx hb dX7_loadedSet_5 rfl (lv_at hl 0 rfl) ?_
      refine va_get (D := (dC, dI)) (ci := 7) (v := .ref h1) (C := RX7) (T := TX7) (N := 13) hx hb hts inX7_loadedSet_X7 hown hK hP 0 rfl rfl 0 (by decide) (hts _ kX7_loadedSet_1) (fun _ h9 => h9) rfl dX7_loadedSet_6 ?_
      refine lv_iconst (v := 3) hx hb dX7_loadedSet_9 (by decide) ?_
      refine x_iald (k := 3) hx hb hK hP 1 0 rfl rfl (inb_in (by decide)) rfl dX7_loadedSet_10 ?_
      refine lv_icmp_ge (tgt := 64) hx hb dX7_loadedSet_11 (by decide) (fun c2 => ?_) (fun c2 => ?_)
      · replace hd := ite_t c2 hd
        cases hd
        exact Kq1 _ _ _ hP hD hS (lv_sub hl [2] rfl)
      · replace hd := ite_f c2 hd
        refine lv_aload_n hx hb dX7_loadedSet_14 rfl (lv_at hl 0 rfl) ?_
        refine lv_iload_n hx hb dX7_loadedSet_15 rfl (lv_at hl 3 rfl) ?_
        obtain ⟨q3, hq3, hd⟩ := bnd_some hd
        have hPc : va_P (dC, dI) vwCl [(h0, .inr (7, [.ref h1, .ref h2, .int v_recorded, .ref h3, .ref h4, .ref h5, .int v_padLength, .ref h6, .int v_at, .int v_letter, .int v_hasUnder, .ref h7, .int v_numbersMany])), (h1, .inl (cI, 2628, .inl v_state)), (h6, .inl (cI, 7, .inl v_found_4))] _ := hP.sub [0, 1, 2] rfl
        have hDc := hD.sub (ws' := [(h0, .inr (7, [.ref h1, .ref h2, .int v_recorded, .ref h3, .ref h4, .ref h5, .int v_padLength, .ref h6, .int v_at, .int v_letter, .int v_hasUnder, .ref h7, .int v_numbersMany])), (h1, .inl (cI, 2628, .inl v_state)), (h6, .inl (cI, 7, .inl v_found_4))]) [0, 1, 2] (by decide) rfl
        have hFc := va_free (wc := [(h0, .inr (7, [.ref h1, .ref h2, .int v_recorded, .ref h3, .ref h4, .ref h5, .int v_padLength, .ref h6, .int v_at, .int v_letter, .int v_hasUnder, .ref h7, .int v_numbersMany])), (h1, .inl (cI, 2628, .inl v_state)), (h6, .inl (cI, 7, .inl v_found_4))]) hD hS hA [0, 1, 2] rfl
        refine va_calli (va_runV (As := [.int y3_4]) (rest := []) ⟨hx, hb, hml, hown, hts⟩ (c_X7_loadedBy l dC dI cI cC cT h0 h1 h2 h3 h4 h5 h6 h7 H.size v_state v_recorded v_padLength v_found_4 v_at v_letter v_hasUnder v_numbersMany y3_4 q3 hq3) (cwV 1 hts gX7_loadedSet_X7_loadedBy rfl rfl rfl hv_X7_loadedBy ⟨Nat.le_of_ble_eq_true rfl, Nat.le_of_ble_eq_true rfl⟩) ⟨preB_fb, va_recv hK hPc (ci := 7) (q0 := 0) rfl rfl, fun U hU hW => preB_mk hU hW hPc hK hDc hN⟩ rfl rfl hl.1 rfl (lv_room (Nat.le_of_ble_eq_true rfl)) dX7_loadedSet_16 ⟨Nat.zero_le _, Nat.zero_le _⟩) hS (fun q _ h => hFc q h) hFc (fun r_ u_ t H locs ht hvm hw hB hz1 hk1 hS => ?_)
        have hw : r_ = q3.1 := hw
        have hw := hw.symm
        subst hw
        obtain ⟨hP, hD⟩ := x_join (ws' := [(h0, .inr (7, [.ref h1, .ref h2, .int v_recorded, .ref h3, .ref h4, .ref h5, .int v_padLength, .ref h6, .int v_at, .int v_letter, .int v_hasUnder, .ref h7, .int v_numbersMany])), (h1, .inl (cI, 2628, .inl v_state)), (h6, .inl (cI, 7, .inl q3.2))]) hP hD [0, 1, 2] [] rfl rfl (by decide) (by decide) hk1 hFc ht hB [0, 1, 2] (by decide) rfl
        clear hPc hDc hFc hk1 hB ht hz1 hvm
        refine lv_istore (lv' := [(4, .int q3.1), (0, .ref h0), (1, .int p1), (2, .int y2_4), (3, .int y3_4)]) hx hb dX7_loadedSet_19 hl (by decide) rfl (fun ls hl => ?_)
        refine lv_iload_n hx hb dX7_loadedSet_21 rfl (lv_at hl 3 rfl) ?_
        refine lv_iload_n hx hb dX7_loadedSet_22 rfl (lv_at hl 2 rfl) ?_
        obtain ⟨q4, hq4, hd⟩ := bnd_some hd
        have Kq4 : ∀ (H : Heap) (locs : List Loc) (ls : Array Slot), va_P (dC, dI) vwCl [(h0, .inr (7, [.ref h1, .ref h2, .int v_recorded, .ref h3, .ref h4, .ref h5, .int v_padLength, .ref h6, .int v_at, .int v_letter, .int v_hasUnder, .ref h7, .int v_numbersMany])), (h1, .inl (cI, 2628, .inl v_state)), (h6, .inl (cI, 7, .inl q3.2))] H → va_D A [(h0, .inr (7, [.ref h1, .ref h2, .int v_recorded, .ref h3, .ref h4, .ref h5, .int v_padLength, .ref h6, .int v_at, .int v_letter, .int v_hasUnder, .ref h7, .int v_numbersMany])), (h1, .inl (cI, 2628, .inl v_state)), (h6, .inl (cI, 7, .inl q3.2))] → va_S A s.heap H locs → lv_has ls 5 [(0, .ref h0), (1, .int p1), (3, .int y3_4)] → W p l e rmX7_loadedSet s m args below meth c H locs 0 0 Q (F0 m 56 ls [.int q4, .int y2_4]) := by
          intro H locs ls hP hD hS hl
          refine lv_ior hx hb dX7_loadedSet_56 ?_
          refine lv_istore_n (lv' := [(2, .int (y2_4 ||| q4)), (0, .ref h0), (1, .int p1), (3, .int y3_4)]) hx hb dX7_loadedSet_57 rfl hl (by decide) rfl (fun ls hl => ?_)
          refine lv_iinc (v := (y3_4 + (1 : Int32))) (lv' := [(3, .int (y3_4 + (1 : Int32))), (2, .int (y2_4 ||| q4)), (0, .ref h0), (1, .int p1)]) hx hb dX7_loadedSet_58 hl (k := 3) rfl (by first | rfl | decide) (by decide) rfl (fun ls hl => ?_)
          refine lv_goto (tgt := 4) hx hb dX7_loadedSet_61 (by decide) ?_
          exact ih (y2_4 ||| q4) (y3_4 + (1 : Int32)) q3.2 hd _ _ _ hP hD hS (lv_sub hl [2, 3, 1, 0] rfl)
        replace hd := hq4
        clear hq4
        refine lv_if_eq (tgt := 42) hx hb dX7_loadedSet_23 (by decide) (fun c5 => ?_) (fun c5 => ?_)
        · replace hd := ite_t c5 hd
          refine lv_iload hx hb dX7_loadedSet_42 (lv_at hl 0 rfl) ?_
          refine lv_bipush (v := -6) hx hb dX7_loadedSet_44 (by decide) ?_
          refine lv_icmp_eq (tgt := 55) hx hb dX7_loadedSet_46 (by decide) (fun c6 => ?_) (fun c6 => ?_)
          · replace hd := ite_t c6 hd
            refine lv_iconst (v := 0) hx hb dX7_loadedSet_55 (by decide) ?_
            cases hd
            exact Kq4 _ _ _ hP hD hS (lv_sub hl [1, 2, 4] rfl)
          · replace hd := ite_f c6 hd
            refine lv_iconst (v := 1) hx hb dX7_loadedSet_49 (by decide) ?_
            refine lv_iload_n hx hb dX7_loadedSet_50 rfl (lv_at hl 4 rfl) ?_
            refine lv_ishl hx hb dX7_loadedSet_51 ?_
            refine lv_goto (tgt := 56) hx hb dX7_loadedSet_52 (by decide) ?_
            cases hd
            exact Kq4 _ _ _ hP hD hS (lv_sub hl [1, 2, 4] rfl)
        · replace hd := ite_f c5 hd
          refine lv_iload hx hb dX7_loadedSet_26 (lv_at hl 0 rfl) ?_
          refine lv_iconst (v := 2) hx hb dX7_loadedSet_28 (by decide) ?_
          refine lv_icmp_ne (tgt := 38) hx hb dX7_loadedSet_29 (by decide) (fun c7 => ?_) (fun c7 => ?_)
          · replace hd := ite_f c7 hd
            refine lv_iconst (v := 0) hx hb dX7_loadedSet_38 (by decide) ?_
            refine lv_goto (tgt := 56) hx hb dX7_loadedSet_39 (by decide) ?_
            cases hd
            exact Kq4 _ _ _ hP hD hS (lv_sub hl [1, 2, 4] rfl)
          · replace hd := ite_t c7 hd
            refine lv_iconst (v := 1) hx hb dX7_loadedSet_32 (by decide) ?_
            refine lv_iload_n hx hb dX7_loadedSet_33 rfl (lv_at hl 4 rfl) ?_
            refine lv_ishl hx hb dX7_loadedSet_34 ?_
            refine lv_goto (tgt := 56) hx hb dX7_loadedSet_35 (by decide) ?_
            cases hd
            exact Kq4 _ _ _ hP hD hS (lv_sub hl [1, 2, 4] rfl)
  exact KL8 FU (0 : Int32) (0 : Int32) v_found hq1 _ _ _ hP hD hS (lv_sub hl [2, 3, 1, 0] rfl)
def rmX7_silentMany : Room := { frames := 5, cells := 0, slots := 0, locals := 107 }
theorem hp_X7_silentMany : yX7_silentMany.cls ≠ "java/lang/invoke/MethodHandle" ∧ yX7_silentMany.cls ≠ "java/lang/invoke/VarHandle" ∧ (parseMethodDescriptor yX7_silentMany.desc).map (fun d => d.parameters.length) = some 0 := by decide +kernel
theorem hv_X7_silentMany : yX7_silentMany.cls = RX7 ∧ yX7_silentMany.cls ≠ "java/lang/invoke/MethodHandle" ∧ yX7_silentMany.cls ≠ "java/lang/invoke/VarHandle" ∧ (parseMethodDescriptor yX7_silentMany.desc).map (fun d => d.parameters.length) = some 0 := by decide +kernel
set_option maxHeartbeats 4000000 in
set_option maxRecDepth 100000 in
theorem c_X7_silentMany (l : Launch) (dC : Nat → ClassId) (dI : Nat → Nat → Nat) (cI cC cT : ClassId) (h0 h1 h2 h3 h4 h5 h6 h7 : Nat) (sz : Nat) (v_state : (Nat → Int32)) (v_recorded : Int32) (v_padLength : Int32) (v_at : Int32) (v_letter : Int32) (v_hasUnder : Int32) (v_numbersMany : Int32) (r : Int32) (hd : den_X7_silentMany v_state = some r) : Met l yX7_silentMany wsX7_silentMany rmX7_silentMany (va_Pc [.ref h0] (preB sz (dC, dI) [(h0, .inr (7, [.ref h1, .ref h2, .int v_recorded, .ref h3, .ref h4, .ref h5, .int v_padLength, .ref h6, .int v_at, .int v_letter, .int v_hasUnder, .ref h7, .int v_numbersMany])), (h1, .inl (cI, 2628, .inl v_state))] [(cI, .int), (cC, .char), (cT, .object "CassetteTones$Tape")])) (va_Qi (S := Unit) (fun v _ => v = r) (fun _ t => posB (dC, dI) [(h0, .inr (7, [.ref h1, .ref h2, .int v_recorded, .ref h3, .ref h4, .ref h5, .int v_padLength, .ref h6, .int v_at, .int v_letter, .int v_hasUnder, .ref h7, .int v_numbersMany])), (h1, .inl (cI, 2628, .inl v_state))] [(cI, .int), (cC, .char), (cT, .object "CassetteTones$Tape")] (va_A [(h0, .inr (7, [.ref h1, .ref h2, .int v_recorded, .ref h3, .ref h4, .ref h5, .int v_padLength, .ref h6, .int v_at, .int v_letter, .int v_hasUnder, .ref h7, .int v_numbersMany])), (h1, .inl (cI, 2628, .inl v_state))] sz) t) (va_A [(h0, .inr (7, [.ref h1, .ref h2, .int v_recorded, .ref h3, .ref h4, .ref h5, .int v_padLength, .ref h6, .int v_at, .int v_letter, .int v_hasUnder, .ref h7, .int v_numbersMany])), (h1, .inl (cI, 2628, .inl v_state))] sz)) 0 0 (va_A [(h0, .inr (7, [.ref h1, .ref h2, .int v_recorded, .ref h3, .ref h4, .ref h5, .int v_padLength, .ref h6, .int v_at, .int v_letter, .int v_hasUnder, .ref h7, .int v_numbersMany])), (h1, .inl (cI, 2628, .inl v_state))] sz) := by
  refine x_met_i (by decide) rfl (Nat.le_of_ble_eq_true rfl) ?_
  intro p e s m args below meth c A Q H locs ls hx hb hml hown hts hK hN hA hP hD hS hl hend
  have hown : s.vm.findClass RX7 = some m.cls := hown
  have hl : lv_has ls 3 [(0, .ref h0)] := hl
  unfold den_X7_silentMany at hd
  refine lv_iconst (v := 0) hx hb dX7_silentMany_0 (by decide) ?_
  refine lv_istore_n (lv' := [(1, .int (0 : Int32)), (0, .ref h0)]) hx hb dX7_silentMany_1 rfl hl (by decide) rfl (fun ls hl => ?_)
  refine lv_iconst (v := 0) hx hb dX7_silentMany_2 (by decide) ?_
  refine lv_istore_n (lv' := [(2, .int (0 : Int32)), (1, .int (0 : Int32)), (0, .ref h0)]) hx hb dX7_silentMany_3 rfl hl (by decide) rfl (fun ls hl => ?_)
  obtain ⟨q1, hq1, hd⟩ := bnd_some hd
  have Kq1 : ∀ (H : Heap) (locs : List Loc) (ls : Array Slot), va_P (dC, dI) vwCl [(h0, .inr (7, [.ref h1, .ref h2, .int v_recorded, .ref h3, .ref h4, .ref h5, .int v_padLength, .ref h6, .int v_at, .int v_letter, .int v_hasUnder, .ref h7, .int v_numbersMany])), (h1, .inl (cI, 2628, .inl v_state))] H → va_D A [(h0, .inr (7, [.ref h1, .ref h2, .int v_recorded, .ref h3, .ref h4, .ref h5, .int v_padLength, .ref h6, .int v_at, .int v_letter, .int v_hasUnder, .ref h7, .int v_numbersMany])), (h1, .inl (cI, 2628, .inl v_state))] → va_S A s.heap H locs → lv_has ls 3 [(1, .int q1)] → W p l e rmX7_silentMany s m args below meth c H locs 0 0 Q (F0 m 34 ls []) := by
    intro H locs ls hP hD hS hl
    refine lv_iload_n hx hb dX7_silentMany_34 rfl (lv_at hl 0 rfl) ?_
    cases hd
    exact hend (by rfl) hP hD hS dX7_silentMany_35
  clear hd
  have KL7 : ∀ (fu : Nat) (y1_4 : Int32) (y2_4 : Int32) (hd : den_X7_silentMany_L4 v_state fu y1_4 y2_4 = some q1) (H : Heap) (locs : List Loc) (ls : Array Slot), va_P (dC, dI) vwCl [(h0, .inr (7, [.ref h1, .ref h2, .int v_recorded, .ref h3, .ref h4, .ref h5, .int v_padLength, .ref h6, .int v_at, .int v_letter, .int v_hasUnder, .ref h7, .int v_numbersMany])), (h1, .inl (cI, 2628, .inl v_state))] H → va_D A [(h0, .inr (7, [.ref h1, .ref h2, .int v_recorded, .ref h3, .ref h4, .ref h5, .int v_padLength, .ref h6, .int v_at, .int v_letter, .int v_hasUnder, .ref h7, .int v_numbersMany])), (h1, .inl (cI, 2628, .inl v_state))] → va_S A s.heap H locs → lv_has ls 3 [(0, .ref h0), (1, .int y1_4), (2, .int y2_4)] → W p l e rmX7_silentMany s m args below meth c H locs 0 0 Q (F0 m 4 ls []) := by
    intro fu
    induction fu with
    | zero => intro y1_4 y2_4 hd; exact no_some hd
    | succ fu ih =>
      intro y1_4 y2_4 hd H locs ls hP hD hS hl
      rw [den_X7_silentMany_L4] at hd
      refine lv_iload_n hx hb dX7_silentMany_4 rfl (lv_at hl 2 rfl) ?_
      refine lv_aload_n hx hb dX7_silentMany_5 rfl (lv_at hl 0 rfl) ?_
      obtain ⟨q2, hq2, hd⟩ := bnd_some hd
      have hPc : va_P (dC, dI) vwCl [(h0, .inr (7, [.ref h1, .ref h2, .int v_recorded, .ref h3, .ref h4, .ref h5, .int v_padLength, .ref h6, .int v_at, .int v_letter, .int v_hasUnder, .ref h7, .int v_numbersMany])), (h1, .inl (cI, 2628, .inl v_state))] _ := hP.sub [0, 1] rfl
      have hDc := hD.sub (ws' := [(h0, .inr (7, [.ref h1, .ref h2, .int v_recorded, .ref h3, .ref h4, .ref h5, .int v_padLength, .ref h6, .int v_at, .int v_letter, .int v_hasUnder, .ref h7, .int v_numbersMany])), (h1, .inl (cI, 2628, .inl v_state))]) [0, 1] (by decide) rfl
      have hFc := va_free (wc := [(h0, .inr (7, [.ref h1, .ref h2, .int v_recorded, .ref h3, .ref h4, .ref h5, .int v_padLength, .ref h6, .int v_at, .int v_letter, .int v_hasUnder, .ref h7, .int v_numbersMany])), (h1, .inl (cI, 2628, .inl v_state))]) hD hS hA [0, 1] rfl
      refine va_calli (va_runV (As := []) (rest := [.int y2_4]) ⟨hx, hb, hml, hown, hts⟩ (c_X7_allCells l dC dI cI cC cT h0 h1 h2 h3 h4 h5 h6 h7 H.size v_state v_recorded v_padLength v_at v_letter v_hasUnder v_numbersMany q2 hq2) (cwV 0 hts gX7_silentMany_X7_allCells rfl rfl rfl hv_X7_allCells ⟨Nat.le_of_ble_eq_true rfl, Nat.le_of_ble_eq_true rfl⟩) ⟨preB_fb, va_recv hK hPc (ci := 7) (q0 := 0) rfl rfl, fun U hU hW => preB_mk hU hW hPc hK hDc hN⟩ rfl rfl hl.1 rfl (lv_room (Nat.le_of_ble_eq_true rfl)) dX7_silentMany_6 ⟨Nat.zero_le _, Nat.zero_le _⟩) hS (fun q _ h => hFc q h) hFc (fun r_ u_ t H locs ht hvm hw hB hz1 hk1 hS => ?_)
      have hw : r_ = q2 := hw
      have hw := hw.symm
      subst hw
      obtain ⟨hP, hD⟩ := x_join (ws' := [(h0, .inr (7, [.ref h1, .ref h2, .int v_recorded, .ref h3, .ref h4, .ref h5, .int v_padLength, .ref h6, .int v_at, .int v_letter, .int v_hasUnder, .ref h7, .int v_numbersMany])), (h1, .inl (cI, 2628, .inl v_state))]) hP hD [0, 1] [] rfl rfl (by decide) (by decide) hk1 hFc ht hB [0, 1] (by decide) rfl
      clear hPc hDc hFc hk1 hB ht hz1 hvm
      refine lv_icmp_ge (tgt := 34) hx hb dX7_silentMany_9 (by decide) (fun c3 => ?_) (fun c3 => ?_)
      · replace hd := ite_t c3 hd
        cases hd
        exact Kq1 _ _ _ hP hD hS (lv_sub hl [1] rfl)
      · replace hd := ite_f c3 hd
        refine lv_iload_n hx hb dX7_silentMany_12 rfl (lv_at hl 1 rfl) ?_
        refine lv_aload_n hx hb dX7_silentMany_13 rfl (lv_at hl 0 rfl) ?_
        refine lv_iload_n hx hb dX7_silentMany_14 rfl (lv_at hl 2 rfl) ?_
        obtain ⟨q4, hq4, hd⟩ := bnd_some hd
        have hPc : va_P (dC, dI) vwCl [(h0, .inr (7, [.ref h1, .ref h2, .int v_recorded, .ref h3, .ref h4, .ref h5, .int v_padLength, .ref h6, .int v_at, .int v_letter, .int v_hasUnder, .ref h7, .int v_numbersMany])), (h1, .inl (cI, 2628, .inl v_state))] _ := hP.sub [0, 1] rfl
        have hDc := hD.sub (ws' := [(h0, .inr (7, [.ref h1, .ref h2, .int v_recorded, .ref h3, .ref h4, .ref h5, .int v_padLength, .ref h6, .int v_at, .int v_letter, .int v_hasUnder, .ref h7, .int v_numbersMany])), (h1, .inl (cI, 2628, .inl v_state))]) [0, 1] (by decide) rfl
        have hFc := va_free (wc := [(h0, .inr (7, [.ref h1, .ref h2, .int v_recorded, .ref h3, .ref h4, .ref h5, .int v_padLength, .ref h6, .int v_at, .int v_letter, .int v_hasUnder, .ref h7, .int v_numbersMany])), (h1, .inl (cI, 2628, .inl v_state))]) hD hS hA [0, 1] rfl
        refine va_calli (va_runV (As := [.int y2_4]) (rest := [.int y1_4]) ⟨hx, hb, hml, hown, hts⟩ (c_X7_isHeard l dC dI cI cC cT h0 h1 h2 h3 h4 h5 h6 h7 H.size v_state v_recorded v_padLength v_at v_letter v_hasUnder v_numbersMany y2_4 q4 hq4) (cwV 1 hts gX7_silentMany_X7_isHeard rfl rfl rfl hv_X7_isHeard ⟨Nat.le_of_ble_eq_true rfl, Nat.le_of_ble_eq_true rfl⟩) ⟨preB_fb, va_recv hK hPc (ci := 7) (q0 := 0) rfl rfl, fun U hU hW => preB_mk hU hW hPc hK hDc hN⟩ rfl rfl hl.1 rfl (lv_room (Nat.le_of_ble_eq_true rfl)) dX7_silentMany_15 ⟨Nat.zero_le _, Nat.zero_le _⟩) hS (fun q _ h => hFc q h) hFc (fun r_ u_ t H locs ht hvm hw hB hz1 hk1 hS => ?_)
        have hw : r_ = q4 := hw
        have hw := hw.symm
        subst hw
        obtain ⟨hP, hD⟩ := x_join (ws' := [(h0, .inr (7, [.ref h1, .ref h2, .int v_recorded, .ref h3, .ref h4, .ref h5, .int v_padLength, .ref h6, .int v_at, .int v_letter, .int v_hasUnder, .ref h7, .int v_numbersMany])), (h1, .inl (cI, 2628, .inl v_state))]) hP hD [0, 1] [] rfl rfl (by decide) (by decide) hk1 hFc ht hB [0, 1] (by decide) rfl
        clear hPc hDc hFc hk1 hB ht hz1 hvm
        obtain ⟨q5, hq5, hd⟩ := bnd_some hd
        have Kq5 : ∀ (H : Heap) (locs : List Loc) (ls : Array Slot), va_P (dC, dI) vwCl [(h0, .inr (7, [.ref h1, .ref h2, .int v_recorded, .ref h3, .ref h4, .ref h5, .int v_padLength, .ref h6, .int v_at, .int v_letter, .int v_hasUnder, .ref h7, .int v_numbersMany])), (h1, .inl (cI, 2628, .inl v_state))] H → va_D A [(h0, .inr (7, [.ref h1, .ref h2, .int v_recorded, .ref h3, .ref h4, .ref h5, .int v_padLength, .ref h6, .int v_at, .int v_letter, .int v_hasUnder, .ref h7, .int v_numbersMany])), (h1, .inl (cI, 2628, .inl v_state))] → va_S A s.heap H locs → lv_has ls 3 [(0, .ref h0), (2, .int y2_4)] → W p l e rmX7_silentMany s m args below meth c H locs 0 0 Q (F0 m 26 ls [.int q5, .int y1_4]) := by
          intro H locs ls hP hD hS hl
          refine lv_iadd hx hb dX7_silentMany_26 ?_
          refine lv_istore_n (lv' := [(1, .int (y1_4 + q5)), (0, .ref h0), (2, .int y2_4)]) hx hb dX7_silentMany_27 rfl hl (by decide) rfl (fun ls hl => ?_)
          refine lv_iinc (v := (y2_4 + (1 : Int32))) (lv' := [(2, .int (y2_4 + (1 : Int32))), (1, .int (y1_4 + q5)), (0, .ref h0)]) hx hb dX7_silentMany_28 hl (k := 2) rfl (by first | rfl | decide) (by decide) rfl (fun ls hl => ?_)
          refine lv_goto (tgt := 4) hx hb dX7_silentMany_31 (by decide) ?_
          exact ih (y1_4 + q5) (y2_4 + (1 : Int32)) hd _ _ _ hP hD hS (lv_sub hl [2, 1, 0] rfl)
        replace hd := hq5
        clear hq5
        refine lv_if_eq (tgt := 25) hx hb dX7_silentMany_18 (by decide) (fun c6 => ?_) (fun c6 => ?_)
        · replace hd := ite_t c6 hd
          refine lv_iconst (v := 1) hx hb dX7_silentMany_25 (by decide) ?_
          cases hd
          exact Kq5 _ _ _ hP hD hS (lv_sub hl [0, 2] rfl)
        · replace hd := ite_f c6 hd
          refine lv_iconst (v := 0) hx hb dX7_silentMany_21 (by decide) ?_
          refine lv_goto (tgt := 26) hx hb dX7_silentMany_22 (by decide) ?_
          cases hd
          exact Kq5 _ _ _ hP hD hS (lv_sub hl [0, 2] rfl)
  exact KL7 FU (0 : Int32) (0 : Int32) hq1 _ _ _ hP hD hS (lv_sub hl [2, 1, 0] rfl)
def rmX7_badMany : Room := { frames := 5, cells := 0, slots := 0, locals := 107 }
theorem hp_X7_badMany : yX7_badMany.cls ≠ "java/lang/invoke/MethodHandle" ∧ yX7_badMany.cls ≠ "java/lang/invoke/VarHandle" ∧ (parseMethodDescriptor yX7_badMany.desc).map (fun d => d.parameters.length) = some 0 := by decide +kernel
theorem hv_X7_badMany : yX7_badMany.cls = RX7 ∧ yX7_badMany.cls ≠ "java/lang/invoke/MethodHandle" ∧ yX7_badMany.cls ≠ "java/lang/invoke/VarHandle" ∧ (parseMethodDescriptor yX7_badMany.desc).map (fun d => d.parameters.length) = some 0 := by decide +kernel
set_option maxHeartbeats 4000000 in
set_option maxRecDepth 100000 in
theorem c_X7_badMany (l : Launch) (dC : Nat → ClassId) (dI : Nat → Nat → Nat) (cI cC cT : ClassId) (h0 h1 h2 h3 h4 h5 h6 h7 : Nat) (sz : Nat) (v_state : (Nat → Int32)) (v_recorded : Int32) (v_padLength : Int32) (v_at : Int32) (v_letter : Int32) (v_hasUnder : Int32) (v_numbersMany : Int32) (r : Int32) (hd : den_X7_badMany v_state = some r) : Met l yX7_badMany wsX7_badMany rmX7_badMany (va_Pc [.ref h0] (preB sz (dC, dI) [(h0, .inr (7, [.ref h1, .ref h2, .int v_recorded, .ref h3, .ref h4, .ref h5, .int v_padLength, .ref h6, .int v_at, .int v_letter, .int v_hasUnder, .ref h7, .int v_numbersMany])), (h1, .inl (cI, 2628, .inl v_state))] [(cI, .int), (cC, .char), (cT, .object "CassetteTones$Tape")])) (va_Qi (S := Unit) (fun v _ => v = r) (fun _ t => posB (dC, dI) [(h0, .inr (7, [.ref h1, .ref h2, .int v_recorded, .ref h3, .ref h4, .ref h5, .int v_padLength, .ref h6, .int v_at, .int v_letter, .int v_hasUnder, .ref h7, .int v_numbersMany])), (h1, .inl (cI, 2628, .inl v_state))] [(cI, .int), (cC, .char), (cT, .object "CassetteTones$Tape")] (va_A [(h0, .inr (7, [.ref h1, .ref h2, .int v_recorded, .ref h3, .ref h4, .ref h5, .int v_padLength, .ref h6, .int v_at, .int v_letter, .int v_hasUnder, .ref h7, .int v_numbersMany])), (h1, .inl (cI, 2628, .inl v_state))] sz) t) (va_A [(h0, .inr (7, [.ref h1, .ref h2, .int v_recorded, .ref h3, .ref h4, .ref h5, .int v_padLength, .ref h6, .int v_at, .int v_letter, .int v_hasUnder, .ref h7, .int v_numbersMany])), (h1, .inl (cI, 2628, .inl v_state))] sz)) 0 0 (va_A [(h0, .inr (7, [.ref h1, .ref h2, .int v_recorded, .ref h3, .ref h4, .ref h5, .int v_padLength, .ref h6, .int v_at, .int v_letter, .int v_hasUnder, .ref h7, .int v_numbersMany])), (h1, .inl (cI, 2628, .inl v_state))] sz) := by
  refine x_met_i (by decide) rfl (Nat.le_of_ble_eq_true rfl) ?_
  intro p e s m args below meth c A Q H locs ls hx hb hml hown hts hK hN hA hP hD hS hl hend
  have hown : s.vm.findClass RX7 = some m.cls := hown
  have hl : lv_has ls 3 [(0, .ref h0)] := hl
  unfold den_X7_badMany at hd
  refine lv_iconst (v := 0) hx hb dX7_badMany_0 (by decide) ?_
  refine lv_istore_n (lv' := [(1, .int (0 : Int32)), (0, .ref h0)]) hx hb dX7_badMany_1 rfl hl (by decide) rfl (fun ls hl => ?_)
  refine lv_iconst (v := 0) hx hb dX7_badMany_2 (by decide) ?_
  refine lv_istore_n (lv' := [(2, .int (0 : Int32)), (1, .int (0 : Int32)), (0, .ref h0)]) hx hb dX7_badMany_3 rfl hl (by decide) rfl (fun ls hl => ?_)
  obtain ⟨q1, hq1, hd⟩ := bnd_some hd
  have Kq1 : ∀ (H : Heap) (locs : List Loc) (ls : Array Slot), va_P (dC, dI) vwCl [(h0, .inr (7, [.ref h1, .ref h2, .int v_recorded, .ref h3, .ref h4, .ref h5, .int v_padLength, .ref h6, .int v_at, .int v_letter, .int v_hasUnder, .ref h7, .int v_numbersMany])), (h1, .inl (cI, 2628, .inl v_state))] H → va_D A [(h0, .inr (7, [.ref h1, .ref h2, .int v_recorded, .ref h3, .ref h4, .ref h5, .int v_padLength, .ref h6, .int v_at, .int v_letter, .int v_hasUnder, .ref h7, .int v_numbersMany])), (h1, .inl (cI, 2628, .inl v_state))] → va_S A s.heap H locs → lv_has ls 3 [(1, .int q1)] → W p l e rmX7_badMany s m args below meth c H locs 0 0 Q (F0 m 26 ls []) := by
    intro H locs ls hP hD hS hl
    refine lv_iload_n hx hb dX7_badMany_26 rfl (lv_at hl 0 rfl) ?_
    cases hd
    exact hend (by rfl) hP hD hS dX7_badMany_27
  clear hd
  have KL5 : ∀ (fu : Nat) (y1_4 : Int32) (y2_4 : Int32) (hd : den_X7_badMany_L4 v_state fu y1_4 y2_4 = some q1) (H : Heap) (locs : List Loc) (ls : Array Slot), va_P (dC, dI) vwCl [(h0, .inr (7, [.ref h1, .ref h2, .int v_recorded, .ref h3, .ref h4, .ref h5, .int v_padLength, .ref h6, .int v_at, .int v_letter, .int v_hasUnder, .ref h7, .int v_numbersMany])), (h1, .inl (cI, 2628, .inl v_state))] H → va_D A [(h0, .inr (7, [.ref h1, .ref h2, .int v_recorded, .ref h3, .ref h4, .ref h5, .int v_padLength, .ref h6, .int v_at, .int v_letter, .int v_hasUnder, .ref h7, .int v_numbersMany])), (h1, .inl (cI, 2628, .inl v_state))] → va_S A s.heap H locs → lv_has ls 3 [(0, .ref h0), (1, .int y1_4), (2, .int y2_4)] → W p l e rmX7_badMany s m args below meth c H locs 0 0 Q (F0 m 4 ls []) := by
    intro fu
    induction fu with
    | zero => intro y1_4 y2_4 hd; exact no_some hd
    | succ fu ih =>
      intro y1_4 y2_4 hd H locs ls hP hD hS hl
      rw [den_X7_badMany_L4] at hd
      refine lv_iload_n hx hb dX7_badMany_4 rfl (lv_at hl 2 rfl) ?_
      refine lv_aload_n hx hb dX7_badMany_5 rfl (lv_at hl 0 rfl) ?_
      obtain ⟨q2, hq2, hd⟩ := bnd_some hd
      have hPc : va_P (dC, dI) vwCl [(h0, .inr (7, [.ref h1, .ref h2, .int v_recorded, .ref h3, .ref h4, .ref h5, .int v_padLength, .ref h6, .int v_at, .int v_letter, .int v_hasUnder, .ref h7, .int v_numbersMany])), (h1, .inl (cI, 2628, .inl v_state))] _ := hP.sub [0, 1] rfl
      have hDc := hD.sub (ws' := [(h0, .inr (7, [.ref h1, .ref h2, .int v_recorded, .ref h3, .ref h4, .ref h5, .int v_padLength, .ref h6, .int v_at, .int v_letter, .int v_hasUnder, .ref h7, .int v_numbersMany])), (h1, .inl (cI, 2628, .inl v_state))]) [0, 1] (by decide) rfl
      have hFc := va_free (wc := [(h0, .inr (7, [.ref h1, .ref h2, .int v_recorded, .ref h3, .ref h4, .ref h5, .int v_padLength, .ref h6, .int v_at, .int v_letter, .int v_hasUnder, .ref h7, .int v_numbersMany])), (h1, .inl (cI, 2628, .inl v_state))]) hD hS hA [0, 1] rfl
      refine va_calli (va_runV (As := []) (rest := [.int y2_4]) ⟨hx, hb, hml, hown, hts⟩ (c_X7_allCells l dC dI cI cC cT h0 h1 h2 h3 h4 h5 h6 h7 H.size v_state v_recorded v_padLength v_at v_letter v_hasUnder v_numbersMany q2 hq2) (cwV 0 hts gX7_badMany_X7_allCells rfl rfl rfl hv_X7_allCells ⟨Nat.le_of_ble_eq_true rfl, Nat.le_of_ble_eq_true rfl⟩) ⟨preB_fb, va_recv hK hPc (ci := 7) (q0 := 0) rfl rfl, fun U hU hW => preB_mk hU hW hPc hK hDc hN⟩ rfl rfl hl.1 rfl (lv_room (Nat.le_of_ble_eq_true rfl)) dX7_badMany_6 ⟨Nat.zero_le _, Nat.zero_le _⟩) hS (fun q _ h => hFc q h) hFc (fun r_ u_ t H locs ht hvm hw hB hz1 hk1 hS => ?_)
      have hw : r_ = q2 := hw
      have hw := hw.symm
      subst hw
      obtain ⟨hP, hD⟩ := x_join (ws' := [(h0, .inr (7, [.ref h1, .ref h2, .int v_recorded, .ref h3, .ref h4, .ref h5, .int v_padLength, .ref h6, .int v_at, .int v_letter, .int v_hasUnder, .ref h7, .int v_numbersMany])), (h1, .inl (cI, 2628, .inl v_state))]) hP hD [0, 1] [] rfl rfl (by decide) (by decide) hk1 hFc ht hB [0, 1] (by decide) rfl
      clear hPc hDc hFc hk1 hB ht hz1 hvm
      refine lv_icmp_ge (tgt := 26) hx hb dX7_badMany_9 (by decide) (fun c3 => ?_) (fun c3 => ?_)
      · replace hd := ite_t c3 hd
        cases hd
        exact Kq1 _ _ _ hP hD hS (lv_sub hl [1] rfl)
      · replace hd := ite_f c3 hd
        refine lv_iload_n hx hb dX7_badMany_12 rfl (lv_at hl 1 rfl) ?_
        refine lv_aload_n hx hb dX7_badMany_13 rfl (lv_at hl 0 rfl) ?_
        refine lv_iload_n hx hb dX7_badMany_14 rfl (lv_at hl 2 rfl) ?_
        obtain ⟨q4, hq4, hd⟩ := bnd_some hd
        have hPc : va_P (dC, dI) vwCl [(h0, .inr (7, [.ref h1, .ref h2, .int v_recorded, .ref h3, .ref h4, .ref h5, .int v_padLength, .ref h6, .int v_at, .int v_letter, .int v_hasUnder, .ref h7, .int v_numbersMany])), (h1, .inl (cI, 2628, .inl v_state))] _ := hP.sub [0, 1] rfl
        have hDc := hD.sub (ws' := [(h0, .inr (7, [.ref h1, .ref h2, .int v_recorded, .ref h3, .ref h4, .ref h5, .int v_padLength, .ref h6, .int v_at, .int v_letter, .int v_hasUnder, .ref h7, .int v_numbersMany])), (h1, .inl (cI, 2628, .inl v_state))]) [0, 1] (by decide) rfl
        have hFc := va_free (wc := [(h0, .inr (7, [.ref h1, .ref h2, .int v_recorded, .ref h3, .ref h4, .ref h5, .int v_padLength, .ref h6, .int v_at, .int v_letter, .int v_hasUnder, .ref h7, .int v_numbersMany])), (h1, .inl (cI, 2628, .inl v_state))]) hD hS hA [0, 1] rfl
        refine va_calli (va_runV (As := [.int y2_4]) (rest := [.int y1_4]) ⟨hx, hb, hml, hown, hts⟩ (c_X7_badness l dC dI cI cC cT h0 h1 h2 h3 h4 h5 h6 h7 H.size v_state v_recorded v_padLength v_at v_letter v_hasUnder v_numbersMany y2_4 q4 hq4) (cwV 1 hts gX7_badMany_X7_badness rfl rfl rfl hv_X7_badness ⟨Nat.le_of_ble_eq_true rfl, Nat.le_of_ble_eq_true rfl⟩) ⟨preB_fb, va_recv hK hPc (ci := 7) (q0 := 0) rfl rfl, fun U hU hW => preB_mk hU hW hPc hK hDc hN⟩ rfl rfl hl.1 rfl (lv_room (Nat.le_of_ble_eq_true rfl)) dX7_badMany_15 ⟨Nat.zero_le _, Nat.zero_le _⟩) hS (fun q _ h => hFc q h) hFc (fun r_ u_ t H locs ht hvm hw hB hz1 hk1 hS => ?_)
        have hw : r_ = q4 := hw
        have hw := hw.symm
        subst hw
        obtain ⟨hP, hD⟩ := x_join (ws' := [(h0, .inr (7, [.ref h1, .ref h2, .int v_recorded, .ref h3, .ref h4, .ref h5, .int v_padLength, .ref h6, .int v_at, .int v_letter, .int v_hasUnder, .ref h7, .int v_numbersMany])), (h1, .inl (cI, 2628, .inl v_state))]) hP hD [0, 1] [] rfl rfl (by decide) (by decide) hk1 hFc ht hB [0, 1] (by decide) rfl
        clear hPc hDc hFc hk1 hB ht hz1 hvm
        refine lv_iadd hx hb dX7_badMany_18 ?_
        refine lv_istore_n (lv' := [(1, .int (y1_4 + q4)), (0, .ref h0), (2, .int y2_4)]) hx hb dX7_badMany_19 rfl hl (by decide) rfl (fun ls hl => ?_)
        refine lv_iinc (v := (y2_4 + (1 : Int32))) (lv' := [(2, .int (y2_4 + (1 : Int32))), (1, .int (y1_4 + q4)), (0, .ref h0)]) hx hb dX7_badMany_20 hl (k := 2) rfl (by first | rfl | decide) (by decide) rfl (fun ls hl => ?_)
        refine lv_goto (tgt := 4) hx hb dX7_badMany_23 (by decide) ?_
        exact ih (y1_4 + q4) (y2_4 + (1 : Int32)) hd _ _ _ hP hD hS (lv_sub hl [2, 1, 0] rfl)
  exact KL5 FU (0 : Int32) (0 : Int32) hq1 _ _ _ hP hD hS (lv_sub hl [2, 1, 0] rfl)
def rmX7_count : Room := { frames := 9, cells := 0, slots := 0, locals := 213 }
theorem kX7_count_1 : (Cond.fieldLink RX7 7 "CassetteTonesModel" "state" "[I") ∈ wsX7_count := List.mem_of_getElem? (i := 1) (by decide +kernel)
theorem kX7_count_2 : (Cond.fieldLink RX7 162 "CassetteTonesModel" "padLength" "I") ∈ wsX7_count := List.mem_of_getElem? (i := 2) (by decide +kernel)
theorem kX7_count_3 : (Cond.fieldLink RX7 31 "CassetteTonesModel" "recorded" "I") ∈ wsX7_count := List.mem_of_getElem? (i := 3) (by decide +kernel)
theorem inX7_count_X7 : ∀ w ∈ wsX70, w ∈ wsX7_count := by decide +kernel
theorem hp_X7_count : yX7_count.cls ≠ "java/lang/invoke/MethodHandle" ∧ yX7_count.cls ≠ "java/lang/invoke/VarHandle" ∧ (parseMethodDescriptor yX7_count.desc).map (fun d => d.parameters.length) = some 1 := by decide +kernel
theorem hv_X7_count : yX7_count.cls = RX7 ∧ yX7_count.cls ≠ "java/lang/invoke/MethodHandle" ∧ yX7_count.cls ≠ "java/lang/invoke/VarHandle" ∧ (parseMethodDescriptor yX7_count.desc).map (fun d => d.parameters.length) = some 1 := by decide +kernel
set_option maxHeartbeats 4000000 in
set_option maxRecDepth 100000 in
theorem c_X7_count (l : Launch) (dC : Nat → ClassId) (dI : Nat → Nat → Nat) (cI cC cT : ClassId) (h0 h1 h2 h3 h4 h5 h6 h7 : Nat) (sz : Nat) (v_state : (Nat → Int32)) (v_recorded : Int32) (v_padLength : Int32) (v_found : (Nat → Int32)) (v_at : Int32) (v_letter : Int32) (v_hasUnder : Int32) (v_numbersMany : Int32) (p1 : Int32) (r : (Int32 × (Nat → Int32))) (hd : den_X7_count v_state v_recorded v_padLength v_found p1 = some r) : Met l yX7_count wsX7_count rmX7_count (va_Pc [.ref h0, .int p1] (preB sz (dC, dI) [(h0, .inr (7, [.ref h1, .ref h2, .int v_recorded, .ref h3, .ref h4, .ref h5, .int v_padLength, .ref h6, .int v_at, .int v_letter, .int v_hasUnder, .ref h7, .int v_numbersMany])), (h1, .inl (cI, 2628, .inl v_state)), (h6, .inl (cI, 7, .inl v_found))] [(cI, .int), (cC, .char), (cT, .object "CassetteTones$Tape")])) (va_Qi (S := Unit) (fun v _ => v = r.1) (fun _ t => posB (dC, dI) [(h0, .inr (7, [.ref h1, .ref h2, .int v_recorded, .ref h3, .ref h4, .ref h5, .int v_padLength, .ref h6, .int v_at, .int v_letter, .int v_hasUnder, .ref h7, .int v_numbersMany])), (h1, .inl (cI, 2628, .inl v_state)), (h6, .inl (cI, 7, .inl r.2))] [(cI, .int), (cC, .char), (cT, .object "CassetteTones$Tape")] (va_A [(h0, .inr (7, [.ref h1, .ref h2, .int v_recorded, .ref h3, .ref h4, .ref h5, .int v_padLength, .ref h6, .int v_at, .int v_letter, .int v_hasUnder, .ref h7, .int v_numbersMany])), (h1, .inl (cI, 2628, .inl v_state)), (h6, .inl (cI, 7, .inl v_found))] sz) t) (va_A [(h0, .inr (7, [.ref h1, .ref h2, .int v_recorded, .ref h3, .ref h4, .ref h5, .int v_padLength, .ref h6, .int v_at, .int v_letter, .int v_hasUnder, .ref h7, .int v_numbersMany])), (h1, .inl (cI, 2628, .inl v_state)), (h6, .inl (cI, 7, .inl v_found))] sz)) 0 0 (va_A [(h0, .inr (7, [.ref h1, .ref h2, .int v_recorded, .ref h3, .ref h4, .ref h5, .int v_padLength, .ref h6, .int v_at, .int v_letter, .int v_hasUnder, .ref h7, .int v_numbersMany])), (h1, .inl (cI, 2628, .inl v_state)), (h6, .inl (cI, 7, .inl v_found))] sz) := by
  refine x_met_i (by decide) rfl (Nat.le_of_ble_eq_true rfl) ?_
  intro p e s m args below meth c A Q H locs ls hx hb hml hown hts hK hN hA hP hD hS hl hend
  have hown : s.vm.findClass RX7 = some m.cls := hown
  have hl : lv_has ls 2 [(0, .ref h0), (1, .int p1)] := hl
  unfold den_X7_count at hd
  refine lv_iload_n hx hb dX7_count_0 rfl (lv_at hl 1 rfl) ?_
  by_cases c1 : p1 = (0 : Int32)
  · replace hd := ite_t c1 hd
    refine lv_tableIn (off := 59) (tgt := 60) hx hb dX7_count_1 (by rw [c1]; decide) (by rw [c1]; decide) (by rw [c1]; rfl) (by decide) ?_
    refine lv_aload_n hx hb dX7_count_60 rfl (lv_at hl 0 rfl) ?_
    refine va_get (D := (dC, dI)) (ci := 7) (v := .ref h1) (C := RX7) (T := TX7) (N := 13) hx hb hts inX7_count_X7 hown hK hP 0 rfl rfl 0 (by decide) (hts _ kX7_count_1) (fun _ h9 => h9) rfl dX7_count_61 ?_
    refine lv_iconst (v := 3) hx hb dX7_count_64 (by decide) ?_
    refine x_iald (k := 3) hx hb hK hP 1 0 rfl rfl (inb_in (by decide)) rfl dX7_count_65 ?_
    cases hd
    exact hend (by rfl) hP hD hS dX7_count_66
  · replace hd := ite_f c1 hd
    by_cases c2 : p1 = (1 : Int32)
    · replace hd := ite_t c2 hd
      refine lv_tableIn (off := 66) (tgt := 67) hx hb dX7_count_1 (by rw [c2]; decide) (by rw [c2]; decide) (by rw [c2]; rfl) (by decide) ?_
      refine lv_aload_n hx hb dX7_count_67 rfl (lv_at hl 0 rfl) ?_
      obtain ⟨q3, hq3, hd⟩ := bnd_some hd
      have hPc : va_P (dC, dI) vwCl [(h0, .inr (7, [.ref h1, .ref h2, .int v_recorded, .ref h3, .ref h4, .ref h5, .int v_padLength, .ref h6, .int v_at, .int v_letter, .int v_hasUnder, .ref h7, .int v_numbersMany])), (h1, .inl (cI, 2628, .inl v_state))] _ := hP.sub [0, 1] rfl
      have hDc := hD.sub (ws' := [(h0, .inr (7, [.ref h1, .ref h2, .int v_recorded, .ref h3, .ref h4, .ref h5, .int v_padLength, .ref h6, .int v_at, .int v_letter, .int v_hasUnder, .ref h7, .int v_numbersMany])), (h1, .inl (cI, 2628, .inl v_state))]) [0, 1] (by decide) rfl
      have hFc := va_free (wc := [(h0, .inr (7, [.ref h1, .ref h2, .int v_recorded, .ref h3, .ref h4, .ref h5, .int v_padLength, .ref h6, .int v_at, .int v_letter, .int v_hasUnder, .ref h7, .int v_numbersMany])), (h1, .inl (cI, 2628, .inl v_state))]) hD hS hA [0, 1] rfl
      refine va_calli (va_runV (As := []) (rest := []) ⟨hx, hb, hml, hown, hts⟩ (c_X7_allCells l dC dI cI cC cT h0 h1 h2 h3 h4 h5 h6 h7 H.size v_state v_recorded v_padLength v_at v_letter v_hasUnder v_numbersMany q3 hq3) (cwV 0 hts gX7_count_X7_allCells rfl rfl rfl hv_X7_allCells ⟨Nat.le_of_ble_eq_true rfl, Nat.le_of_ble_eq_true rfl⟩) ⟨preB_fb, va_recv hK hPc (ci := 7) (q0 := 0) rfl rfl, fun U hU hW => preB_mk hU hW hPc hK hDc hN⟩ rfl rfl hl.1 rfl (lv_room (Nat.le_of_ble_eq_true rfl)) dX7_count_68 ⟨Nat.zero_le _, Nat.zero_le _⟩) hS (fun q _ h => hFc q h) hFc (fun r_ u_ t H locs ht hvm hw hB hz1 hk1 hS => ?_)
      have hw : r_ = q3 := hw
      have hw := hw.symm
      subst hw
      obtain ⟨hP, hD⟩ := x_join (ws' := [(h0, .inr (7, [.ref h1, .ref h2, .int v_recorded, .ref h3, .ref h4, .ref h5, .int v_padLength, .ref h6, .int v_at, .int v_letter, .int v_hasUnder, .ref h7, .int v_numbersMany])), (h1, .inl (cI, 2628, .inl v_state)), (h6, .inl (cI, 7, .inl v_found))]) hP hD [0, 1] [2] rfl rfl (by decide) (by decide) hk1 hFc ht hB [1, 2, 0] (by decide) rfl
      clear hPc hDc hFc hk1 hB ht hz1 hvm
      cases hd
      exact hend (by rfl) hP hD hS dX7_count_71
    · replace hd := ite_f c2 hd
      by_cases c4 : p1 = (2 : Int32)
      · replace hd := ite_t c4 hd
        refine lv_tableIn (off := 71) (tgt := 72) hx hb dX7_count_1 (by rw [c4]; decide) (by rw [c4]; decide) (by rw [c4]; rfl) (by decide) ?_
        refine lv_aload_n hx hb dX7_count_72 rfl (lv_at hl 0 rfl) ?_
        refine lv_iconst (v := 0) hx hb dX7_count_73 (by decide) ?_
        obtain ⟨q5, hq5, hd⟩ := bnd_some hd
        have hPc : va_P (dC, dI) vwCl [(h0, .inr (7, [.ref h1, .ref h2, .int v_recorded, .ref h3, .ref h4, .ref h5, .int v_padLength, .ref h6, .int v_at, .int v_letter, .int v_hasUnder, .ref h7, .int v_numbersMany])), (h1, .inl (cI, 2628, .inl v_state)), (h6, .inl (cI, 7, .inl v_found))] _ := hP.sub [0, 1, 2] rfl
        have hDc := hD.sub (ws' := [(h0, .inr (7, [.ref h1, .ref h2, .int v_recorded, .ref h3, .ref h4, .ref h5, .int v_padLength, .ref h6, .int v_at, .int v_letter, .int v_hasUnder, .ref h7, .int v_numbersMany])), (h1, .inl (cI, 2628, .inl v_state)), (h6, .inl (cI, 7, .inl v_found))]) [0, 1, 2] (by decide) rfl
        have hFc := va_free (wc := [(h0, .inr (7, [.ref h1, .ref h2, .int v_recorded, .ref h3, .ref h4, .ref h5, .int v_padLength, .ref h6, .int v_at, .int v_letter, .int v_hasUnder, .ref h7, .int v_numbersMany])), (h1, .inl (cI, 2628, .inl v_state)), (h6, .inl (cI, 7, .inl v_found))]) hD hS hA [0, 1, 2] rfl
        refine va_calli (va_runV (As := [.int (0 : Int32)]) (rest := []) ⟨hx, hb, hml, hown, hts⟩ (c_X7_loadedSet l dC dI cI cC cT h0 h1 h2 h3 h4 h5 h6 h7 H.size v_state v_recorded v_padLength v_found v_at v_letter v_hasUnder v_numbersMany (0 : Int32) q5 hq5) (cwV 1 hts gX7_count_X7_loadedSet rfl rfl rfl hv_X7_loadedSet ⟨Nat.le_of_ble_eq_true rfl, Nat.le_of_ble_eq_true rfl⟩) ⟨preB_fb, va_recv hK hPc (ci := 7) (q0 := 0) rfl rfl, fun U hU hW => preB_mk hU hW hPc hK hDc hN⟩ rfl rfl hl.1 rfl (lv_room (Nat.le_of_ble_eq_true rfl)) dX7_count_74 ⟨Nat.zero_le _, Nat.zero_le _⟩) hS (fun q _ h => hFc q h) hFc (fun r_ u_ t H locs ht hvm hw hB hz1 hk1 hS => ?_)
        have hw : r_ = q5.1 := hw
        have hw := hw.symm
        subst hw
        obtain ⟨hP, hD⟩ := x_join (ws' := [(h0, .inr (7, [.ref h1, .ref h2, .int v_recorded, .ref h3, .ref h4, .ref h5, .int v_padLength, .ref h6, .int v_at, .int v_letter, .int v_hasUnder, .ref h7, .int v_numbersMany])), (h1, .inl (cI, 2628, .inl v_state)), (h6, .inl (cI, 7, .inl q5.2))]) hP hD [0, 1, 2] [] rfl rfl (by decide) (by decide) hk1 hFc ht hB [0, 1, 2] (by decide) rfl
        clear hPc hDc hFc hk1 hB ht hz1 hvm
        cases hd
        exact hend (by rfl) hP hD hS dX7_count_77
      · replace hd := ite_f c4 hd
        by_cases c6 : p1 = (3 : Int32)
        · replace hd := ite_t c6 hd
          refine lv_tableIn (off := 77) (tgt := 78) hx hb dX7_count_1 (by rw [c6]; decide) (by rw [c6]; decide) (by rw [c6]; rfl) (by decide) ?_
          refine lv_aload_n hx hb dX7_count_78 rfl (lv_at hl 0 rfl) ?_
          refine lv_iconst (v := 1) hx hb dX7_count_79 (by decide) ?_
          obtain ⟨q7, hq7, hd⟩ := bnd_some hd
          have hPc : va_P (dC, dI) vwCl [(h0, .inr (7, [.ref h1, .ref h2, .int v_recorded, .ref h3, .ref h4, .ref h5, .int v_padLength, .ref h6, .int v_at, .int v_letter, .int v_hasUnder, .ref h7, .int v_numbersMany])), (h1, .inl (cI, 2628, .inl v_state)), (h6, .inl (cI, 7, .inl v_found))] _ := hP.sub [0, 1, 2] rfl
          have hDc := hD.sub (ws' := [(h0, .inr (7, [.ref h1, .ref h2, .int v_recorded, .ref h3, .ref h4, .ref h5, .int v_padLength, .ref h6, .int v_at, .int v_letter, .int v_hasUnder, .ref h7, .int v_numbersMany])), (h1, .inl (cI, 2628, .inl v_state)), (h6, .inl (cI, 7, .inl v_found))]) [0, 1, 2] (by decide) rfl
          have hFc := va_free (wc := [(h0, .inr (7, [.ref h1, .ref h2, .int v_recorded, .ref h3, .ref h4, .ref h5, .int v_padLength, .ref h6, .int v_at, .int v_letter, .int v_hasUnder, .ref h7, .int v_numbersMany])), (h1, .inl (cI, 2628, .inl v_state)), (h6, .inl (cI, 7, .inl v_found))]) hD hS hA [0, 1, 2] rfl
          refine va_calli (va_runV (As := [.int (1 : Int32)]) (rest := []) ⟨hx, hb, hml, hown, hts⟩ (c_X7_loadedSet l dC dI cI cC cT h0 h1 h2 h3 h4 h5 h6 h7 H.size v_state v_recorded v_padLength v_found v_at v_letter v_hasUnder v_numbersMany (1 : Int32) q7 hq7) (cwV 1 hts gX7_count_X7_loadedSet rfl rfl rfl hv_X7_loadedSet ⟨Nat.le_of_ble_eq_true rfl, Nat.le_of_ble_eq_true rfl⟩) ⟨preB_fb, va_recv hK hPc (ci := 7) (q0 := 0) rfl rfl, fun U hU hW => preB_mk hU hW hPc hK hDc hN⟩ rfl rfl hl.1 rfl (lv_room (Nat.le_of_ble_eq_true rfl)) dX7_count_80 ⟨Nat.zero_le _, Nat.zero_le _⟩) hS (fun q _ h => hFc q h) hFc (fun r_ u_ t H locs ht hvm hw hB hz1 hk1 hS => ?_)
          have hw : r_ = q7.1 := hw
          have hw := hw.symm
          subst hw
          obtain ⟨hP, hD⟩ := x_join (ws' := [(h0, .inr (7, [.ref h1, .ref h2, .int v_recorded, .ref h3, .ref h4, .ref h5, .int v_padLength, .ref h6, .int v_at, .int v_letter, .int v_hasUnder, .ref h7, .int v_numbersMany])), (h1, .inl (cI, 2628, .inl v_state)), (h6, .inl (cI, 7, .inl q7.2))]) hP hD [0, 1, 2] [] rfl rfl (by decide) (by decide) hk1 hFc ht hB [0, 1, 2] (by decide) rfl
          clear hPc hDc hFc hk1 hB ht hz1 hvm
          cases hd
          exact hend (by rfl) hP hD hS dX7_count_83
        · replace hd := ite_f c6 hd
          by_cases c8 : p1 = (4 : Int32)
          · replace hd := ite_t c8 hd
            refine lv_tableIn (off := 83) (tgt := 84) hx hb dX7_count_1 (by rw [c8]; decide) (by rw [c8]; decide) (by rw [c8]; rfl) (by decide) ?_
            refine lv_aload_n hx hb dX7_count_84 rfl (lv_at hl 0 rfl) ?_
            obtain ⟨q9, hq9, hd⟩ := bnd_some hd
            have hPc : va_P (dC, dI) vwCl [(h0, .inr (7, [.ref h1, .ref h2, .int v_recorded, .ref h3, .ref h4, .ref h5, .int v_padLength, .ref h6, .int v_at, .int v_letter, .int v_hasUnder, .ref h7, .int v_numbersMany])), (h1, .inl (cI, 2628, .inl v_state))] _ := hP.sub [0, 1] rfl
            have hDc := hD.sub (ws' := [(h0, .inr (7, [.ref h1, .ref h2, .int v_recorded, .ref h3, .ref h4, .ref h5, .int v_padLength, .ref h6, .int v_at, .int v_letter, .int v_hasUnder, .ref h7, .int v_numbersMany])), (h1, .inl (cI, 2628, .inl v_state))]) [0, 1] (by decide) rfl
            have hFc := va_free (wc := [(h0, .inr (7, [.ref h1, .ref h2, .int v_recorded, .ref h3, .ref h4, .ref h5, .int v_padLength, .ref h6, .int v_at, .int v_letter, .int v_hasUnder, .ref h7, .int v_numbersMany])), (h1, .inl (cI, 2628, .inl v_state))]) hD hS hA [0, 1] rfl
            refine va_calli (va_runV (As := []) (rest := []) ⟨hx, hb, hml, hown, hts⟩ (c_X7_silentMany l dC dI cI cC cT h0 h1 h2 h3 h4 h5 h6 h7 H.size v_state v_recorded v_padLength v_at v_letter v_hasUnder v_numbersMany q9 hq9) (cwV 0 hts gX7_count_X7_silentMany rfl rfl rfl hv_X7_silentMany ⟨Nat.le_of_ble_eq_true rfl, Nat.le_of_ble_eq_true rfl⟩) ⟨preB_fb, va_recv hK hPc (ci := 7) (q0 := 0) rfl rfl, fun U hU hW => preB_mk hU hW hPc hK hDc hN⟩ rfl rfl hl.1 rfl (lv_room (Nat.le_of_ble_eq_true rfl)) dX7_count_85 ⟨Nat.zero_le _, Nat.zero_le _⟩) hS (fun q _ h => hFc q h) hFc (fun r_ u_ t H locs ht hvm hw hB hz1 hk1 hS => ?_)
            have hw : r_ = q9 := hw
            have hw := hw.symm
            subst hw
            obtain ⟨hP, hD⟩ := x_join (ws' := [(h0, .inr (7, [.ref h1, .ref h2, .int v_recorded, .ref h3, .ref h4, .ref h5, .int v_padLength, .ref h6, .int v_at, .int v_letter, .int v_hasUnder, .ref h7, .int v_numbersMany])), (h1, .inl (cI, 2628, .inl v_state)), (h6, .inl (cI, 7, .inl v_found))]) hP hD [0, 1] [2] rfl rfl (by decide) (by decide) hk1 hFc ht hB [1, 2, 0] (by decide) rfl
            clear hPc hDc hFc hk1 hB ht hz1 hvm
            cases hd
            exact hend (by rfl) hP hD hS dX7_count_88
          · replace hd := ite_f c8 hd
            by_cases c10 : p1 = (5 : Int32)
            · replace hd := ite_t c10 hd
              refine lv_tableIn (off := 88) (tgt := 89) hx hb dX7_count_1 (by rw [c10]; decide) (by rw [c10]; decide) (by rw [c10]; rfl) (by decide) ?_
              refine lv_aload_n hx hb dX7_count_89 rfl (lv_at hl 0 rfl) ?_
              obtain ⟨q11, hq11, hd⟩ := bnd_some hd
              have hPc : va_P (dC, dI) vwCl [(h0, .inr (7, [.ref h1, .ref h2, .int v_recorded, .ref h3, .ref h4, .ref h5, .int v_padLength, .ref h6, .int v_at, .int v_letter, .int v_hasUnder, .ref h7, .int v_numbersMany])), (h1, .inl (cI, 2628, .inl v_state))] _ := hP.sub [0, 1] rfl
              have hDc := hD.sub (ws' := [(h0, .inr (7, [.ref h1, .ref h2, .int v_recorded, .ref h3, .ref h4, .ref h5, .int v_padLength, .ref h6, .int v_at, .int v_letter, .int v_hasUnder, .ref h7, .int v_numbersMany])), (h1, .inl (cI, 2628, .inl v_state))]) [0, 1] (by decide) rfl
              have hFc := va_free (wc := [(h0, .inr (7, [.ref h1, .ref h2, .int v_recorded, .ref h3, .ref h4, .ref h5, .int v_padLength, .ref h6, .int v_at, .int v_letter, .int v_hasUnder, .ref h7, .int v_numbersMany])), (h1, .inl (cI, 2628, .inl v_state))]) hD hS hA [0, 1] rfl
              refine va_calli (va_runV (As := []) (rest := []) ⟨hx, hb, hml, hown, hts⟩ (c_X7_badMany l dC dI cI cC cT h0 h1 h2 h3 h4 h5 h6 h7 H.size v_state v_recorded v_padLength v_at v_letter v_hasUnder v_numbersMany q11 hq11) (cwV 0 hts gX7_count_X7_badMany rfl rfl rfl hv_X7_badMany ⟨Nat.le_of_ble_eq_true rfl, Nat.le_of_ble_eq_true rfl⟩) ⟨preB_fb, va_recv hK hPc (ci := 7) (q0 := 0) rfl rfl, fun U hU hW => preB_mk hU hW hPc hK hDc hN⟩ rfl rfl hl.1 rfl (lv_room (Nat.le_of_ble_eq_true rfl)) dX7_count_90 ⟨Nat.zero_le _, Nat.zero_le _⟩) hS (fun q _ h => hFc q h) hFc (fun r_ u_ t H locs ht hvm hw hB hz1 hk1 hS => ?_)
              have hw : r_ = q11 := hw
              have hw := hw.symm
              subst hw
              obtain ⟨hP, hD⟩ := x_join (ws' := [(h0, .inr (7, [.ref h1, .ref h2, .int v_recorded, .ref h3, .ref h4, .ref h5, .int v_padLength, .ref h6, .int v_at, .int v_letter, .int v_hasUnder, .ref h7, .int v_numbersMany])), (h1, .inl (cI, 2628, .inl v_state)), (h6, .inl (cI, 7, .inl v_found))]) hP hD [0, 1] [2] rfl rfl (by decide) (by decide) hk1 hFc ht hB [1, 2, 0] (by decide) rfl
              clear hPc hDc hFc hk1 hB ht hz1 hvm
              cases hd
              exact hend (by rfl) hP hD hS dX7_count_93
            · replace hd := ite_f c10 hd
              by_cases c12 : p1 = (6 : Int32)
              · replace hd := ite_t c12 hd
                refine lv_tableIn (off := 93) (tgt := 94) hx hb dX7_count_1 (by rw [c12]; decide) (by rw [c12]; decide) (by rw [c12]; rfl) (by decide) ?_
                refine lv_aload_n hx hb dX7_count_94 rfl (lv_at hl 0 rfl) ?_
                refine va_get (D := (dC, dI)) (ci := 7) (v := .ref h1) (C := RX7) (T := TX7) (N := 13) hx hb hts inX7_count_X7 hown hK hP 0 rfl rfl 0 (by decide) (hts _ kX7_count_1) (fun _ h9 => h9) rfl dX7_count_95 ?_
                refine lv_iload_n hx hb dX7_count_98 rfl (lv_at hl 1 rfl) ?_
                refine lv_bipush (v := 6) hx hb dX7_count_99 (by decide) ?_
                refine lv_isub hx hb dX7_count_101 ?_
                obtain ⟨g13, hd⟩ := gd_some hd
                refine x_iald (k := (p1 - (6 : Int32)).toNatClampNeg) hx hb hK hP 1 0 rfl rfl (inb_in g13) rfl dX7_count_102 ?_
                cases hd
                exact hend (by rfl) hP hD hS dX7_count_103
              · replace hd := ite_f c12 hd
                by_cases c14 : p1 = (7 : Int32)
                · replace hd := ite_t c14 hd
                  refine lv_tableIn (off := 93) (tgt := 94) hx hb dX7_count_1 (by rw [c14]; decide) (by rw [c14]; decide) (by rw [c14]; rfl) (by decide) ?_
                  refine lv_aload_n hx hb dX7_count_94 rfl (lv_at hl 0 rfl) ?_
                  refine va_get (D := (dC, dI)) (ci := 7) (v := .ref h1) (C := RX7) (T := TX7) (N := 13) hx hb hts inX7_count_X7 hown hK hP 0 rfl rfl 0 (by decide) (hts _ kX7_count_1) (fun _ h9 => h9) rfl dX7_count_95 ?_
                  refine lv_iload_n hx hb dX7_count_98 rfl (lv_at hl 1 rfl) ?_
                  refine lv_bipush (v := 6) hx hb dX7_count_99 (by decide) ?_
                  refine lv_isub hx hb dX7_count_101 ?_
                  obtain ⟨g15, hd⟩ := gd_some hd
                  refine x_iald (k := (p1 - (6 : Int32)).toNatClampNeg) hx hb hK hP 1 0 rfl rfl (inb_in g15) rfl dX7_count_102 ?_
                  cases hd
                  exact hend (by rfl) hP hD hS dX7_count_103
                · replace hd := ite_f c14 hd
                  by_cases c16 : p1 = (8 : Int32)
                  · replace hd := ite_t c16 hd
                    refine lv_tableIn (off := 93) (tgt := 94) hx hb dX7_count_1 (by rw [c16]; decide) (by rw [c16]; decide) (by rw [c16]; rfl) (by decide) ?_
                    refine lv_aload_n hx hb dX7_count_94 rfl (lv_at hl 0 rfl) ?_
                    refine va_get (D := (dC, dI)) (ci := 7) (v := .ref h1) (C := RX7) (T := TX7) (N := 13) hx hb hts inX7_count_X7 hown hK hP 0 rfl rfl 0 (by decide) (hts _ kX7_count_1) (fun _ h9 => h9) rfl dX7_count_95 ?_
                    refine lv_iload_n hx hb dX7_count_98 rfl (lv_at hl 1 rfl) ?_
                    refine lv_bipush (v := 6) hx hb dX7_count_99 (by decide) ?_
                    refine lv_isub hx hb dX7_count_101 ?_
                    obtain ⟨g17, hd⟩ := gd_some hd
                    refine x_iald (k := (p1 - (6 : Int32)).toNatClampNeg) hx hb hK hP 1 0 rfl rfl (inb_in g17) rfl dX7_count_102 ?_
                    cases hd
                    exact hend (by rfl) hP hD hS dX7_count_103
                  · replace hd := ite_f c16 hd
                    by_cases c18 : p1 = (9 : Int32)
                    · replace hd := ite_t c18 hd
                      refine lv_tableIn (off := 103) (tgt := 104) hx hb dX7_count_1 (by rw [c18]; decide) (by rw [c18]; decide) (by rw [c18]; rfl) (by decide) ?_
                      refine lv_aload_n hx hb dX7_count_104 rfl (lv_at hl 0 rfl) ?_
                      refine va_get (D := (dC, dI)) (ci := 7) (v := .int v_padLength) (C := RX7) (T := TX7) (N := 13) hx hb hts inX7_count_X7 hown hK hP 0 rfl rfl 6 (by decide) (hts _ kX7_count_2) (fun _ h9 => h9) rfl dX7_count_105 ?_
                      cases hd
                      exact hend (by rfl) hP hD hS dX7_count_108
                    · replace hd := ite_f c18 hd
                      by_cases c19 : p1 = (10 : Int32)
                      · replace hd := ite_t c19 hd
                        refine lv_tableIn (off := 108) (tgt := 109) hx hb dX7_count_1 (by rw [c19]; decide) (by rw [c19]; decide) (by rw [c19]; rfl) (by decide) ?_
                        refine lv_aload_n hx hb dX7_count_109 rfl (lv_at hl 0 rfl) ?_
                        refine va_get (D := (dC, dI)) (ci := 7) (v := .int v_recorded) (C := RX7) (T := TX7) (N := 13) hx hb hts inX7_count_X7 hown hK hP 0 rfl rfl 2 (by decide) (hts _ kX7_count_3) (fun _ h9 => h9) rfl dX7_count_110 ?_
                        cases hd
                        exact hend (by rfl) hP hD hS dX7_count_113
                      · replace hd := ite_f c19 hd
                        refine lv_tableOut (tgt := 114) hx hb dX7_count_1 (by have n0 := lv_neT (a := 0) c1 (by decide); have n1 := lv_neT (a := 1) c2 (by decide); have n2 := lv_neT (a := 2) c4 (by decide); have n3 := lv_neT (a := 3) c6 (by decide); have n4 := lv_neT (a := 4) c8 (by decide); have n5 := lv_neT (a := 5) c10 (by decide); have n6 := lv_neT (a := 6) c12 (by decide); have n7 := lv_neT (a := 7) c14 (by decide); have n8 := lv_neT (a := 8) c16 (by decide); have n9 := lv_neT (a := 9) c18 (by decide); have n10 := lv_neT (a := 10) c19 (by decide); omega) (by decide) ?_
                        refine lv_bipush (v := -2) hx hb dX7_count_114 (by decide) ?_
                        cases hd
                        exact hend (by rfl) hP hD hS dX7_count_116
def rmX7_reachedSet : Room := { frames := 9, cells := 0, slots := 0, locals := 213 }
theorem kX7_reachedSet_1 : (Cond.fieldLink RX7 7 "CassetteTonesModel" "state" "[I") ∈ wsX7_reachedSet := List.mem_of_getElem? (i := 1) (by decide +kernel)
theorem inX7_reachedSet_X7 : ∀ w ∈ wsX70, w ∈ wsX7_reachedSet := by decide +kernel
theorem hp_X7_reachedSet : yX7_reachedSet.cls ≠ "java/lang/invoke/MethodHandle" ∧ yX7_reachedSet.cls ≠ "java/lang/invoke/VarHandle" ∧ (parseMethodDescriptor yX7_reachedSet.desc).map (fun d => d.parameters.length) = some 0 := by decide +kernel
theorem hv_X7_reachedSet : yX7_reachedSet.cls = RX7 ∧ yX7_reachedSet.cls ≠ "java/lang/invoke/MethodHandle" ∧ yX7_reachedSet.cls ≠ "java/lang/invoke/VarHandle" ∧ (parseMethodDescriptor yX7_reachedSet.desc).map (fun d => d.parameters.length) = some 0 := by decide +kernel
set_option maxHeartbeats 4000000 in
set_option maxRecDepth 100000 in
theorem c_X7_reachedSet (l : Launch) (dC : Nat → ClassId) (dI : Nat → Nat → Nat) (cI cC cT : ClassId) (h0 h1 h2 h3 h4 h5 h6 h7 : Nat) (sz : Nat) (v_state : (Nat → Int32)) (v_recorded : Int32) (v_padLength : Int32) (v_found : (Nat → Int32)) (v_at : Int32) (v_letter : Int32) (v_hasUnder : Int32) (v_numbersMany : Int32) (r : (Int32 × (Nat → Int32))) (hd : den_X7_reachedSet v_state v_found = some r) : Met l yX7_reachedSet wsX7_reachedSet rmX7_reachedSet (va_Pc [.ref h0] (preB sz (dC, dI) [(h0, .inr (7, [.ref h1, .ref h2, .int v_recorded, .ref h3, .ref h4, .ref h5, .int v_padLength, .ref h6, .int v_at, .int v_letter, .int v_hasUnder, .ref h7, .int v_numbersMany])), (h1, .inl (cI, 2628, .inl v_state)), (h6, .inl (cI, 7, .inl v_found))] [(cI, .int), (cC, .char), (cT, .object "CassetteTones$Tape")])) (va_Qi (S := Unit) (fun v _ => v = r.1) (fun _ t => posB (dC, dI) [(h0, .inr (7, [.ref h1, .ref h2, .int v_recorded, .ref h3, .ref h4, .ref h5, .int v_padLength, .ref h6, .int v_at, .int v_letter, .int v_hasUnder, .ref h7, .int v_numbersMany])), (h1, .inl (cI, 2628, .inl v_state)), (h6, .inl (cI, 7, .inl r.2))] [(cI, .int), (cC, .char), (cT, .object "CassetteTones$Tape")] (va_A [(h0, .inr (7, [.ref h1, .ref h2, .int v_recorded, .ref h3, .ref h4, .ref h5, .int v_padLength, .ref h6, .int v_at, .int v_letter, .int v_hasUnder, .ref h7, .int v_numbersMany])), (h1, .inl (cI, 2628, .inl v_state)), (h6, .inl (cI, 7, .inl v_found))] sz) t) (va_A [(h0, .inr (7, [.ref h1, .ref h2, .int v_recorded, .ref h3, .ref h4, .ref h5, .int v_padLength, .ref h6, .int v_at, .int v_letter, .int v_hasUnder, .ref h7, .int v_numbersMany])), (h1, .inl (cI, 2628, .inl v_state)), (h6, .inl (cI, 7, .inl v_found))] sz)) 0 0 (va_A [(h0, .inr (7, [.ref h1, .ref h2, .int v_recorded, .ref h3, .ref h4, .ref h5, .int v_padLength, .ref h6, .int v_at, .int v_letter, .int v_hasUnder, .ref h7, .int v_numbersMany])), (h1, .inl (cI, 2628, .inl v_state)), (h6, .inl (cI, 7, .inl v_found))] sz) := by
  refine x_met_i (by decide) rfl (Nat.le_of_ble_eq_true rfl) ?_
  intro p e s m args below meth c A Q H locs ls hx hb hml hown hts hK hN hA hP hD hS hl hend
  have hown : s.vm.findClass RX7 = some m.cls := hown
  have hl : lv_has ls 5 [(0, .ref h0)] := hl
  unfold den_X7_reachedSet at hd
  refine lv_aload_n hx hb dX7_reachedSet_0 rfl (lv_at hl 0 rfl) ?_
  refine lv_iconst (v := 0) hx hb dX7_reachedSet_1 (by decide) ?_
  obtain ⟨q1, hq1, hd⟩ := bnd_some hd
  have hPc : va_P (dC, dI) vwCl [(h0, .inr (7, [.ref h1, .ref h2, .int v_recorded, .ref h3, .ref h4, .ref h5, .int v_padLength, .ref h6, .int v_at, .int v_letter, .int v_hasUnder, .ref h7, .int v_numbersMany])), (h1, .inl (cI, 2628, .inl v_state)), (h6, .inl (cI, 7, .inl v_found))] _ := hP.sub [0, 1, 2] rfl
  have hDc := hD.sub (ws' := [(h0, .inr (7, [.ref h1, .ref h2, .int v_recorded, .ref h3, .ref h4, .ref h5, .int v_padLength, .ref h6, .int v_at, .int v_letter, .int v_hasUnder, .ref h7, .int v_numbersMany])), (h1, .inl (cI, 2628, .inl v_state)), (h6, .inl (cI, 7, .inl v_found))]) [0, 1, 2] (by decide) rfl
  have hFc := va_free (wc := [(h0, .inr (7, [.ref h1, .ref h2, .int v_recorded, .ref h3, .ref h4, .ref h5, .int v_padLength, .ref h6, .int v_at, .int v_letter, .int v_hasUnder, .ref h7, .int v_numbersMany])), (h1, .inl (cI, 2628, .inl v_state)), (h6, .inl (cI, 7, .inl v_found))]) hD hS hA [0, 1, 2] rfl
  refine va_calli (va_runV (As := [.int (0 : Int32)]) (rest := []) ⟨hx, hb, hml, hown, hts⟩ (c_X7_loadedSet l dC dI cI cC cT h0 h1 h2 h3 h4 h5 h6 h7 H.size v_state v_recorded v_padLength v_found v_at v_letter v_hasUnder v_numbersMany (0 : Int32) q1 hq1) (cwV 1 hts gX7_reachedSet_X7_loadedSet rfl rfl rfl hv_X7_loadedSet ⟨Nat.le_of_ble_eq_true rfl, Nat.le_of_ble_eq_true rfl⟩) ⟨preB_fb, va_recv hK hPc (ci := 7) (q0 := 0) rfl rfl, fun U hU hW => preB_mk hU hW hPc hK hDc hN⟩ rfl rfl hl.1 rfl (lv_room (Nat.le_of_ble_eq_true rfl)) dX7_reachedSet_2 ⟨Nat.zero_le _, Nat.zero_le _⟩) hS (fun q _ h => hFc q h) hFc (fun r_ u_ t H locs ht hvm hw hB hz1 hk1 hS => ?_)
  have hw : r_ = q1.1 := hw
  have hw := hw.symm
  subst hw
  obtain ⟨hP, hD⟩ := x_join (ws' := [(h0, .inr (7, [.ref h1, .ref h2, .int v_recorded, .ref h3, .ref h4, .ref h5, .int v_padLength, .ref h6, .int v_at, .int v_letter, .int v_hasUnder, .ref h7, .int v_numbersMany])), (h1, .inl (cI, 2628, .inl v_state)), (h6, .inl (cI, 7, .inl q1.2))]) hP hD [0, 1, 2] [] rfl rfl (by decide) (by decide) hk1 hFc ht hB [0, 1, 2] (by decide) rfl
  clear hPc hDc hFc hk1 hB ht hz1 hvm
  refine lv_istore_n (lv' := [(1, .int q1.1), (0, .ref h0)]) hx hb dX7_reachedSet_5 rfl hl (by decide) rfl (fun ls hl => ?_)
  refine lv_iconst (v := 0) hx hb dX7_reachedSet_6 (by decide) ?_
  refine lv_istore_n (lv' := [(2, .int (0 : Int32)), (1, .int q1.1), (0, .ref h0)]) hx hb dX7_reachedSet_7 rfl hl (by decide) rfl (fun ls hl => ?_)
  refine lv_iconst (v := 0) hx hb dX7_reachedSet_8 (by decide) ?_
  refine lv_istore_n (lv' := [(3, .int (0 : Int32)), (2, .int (0 : Int32)), (1, .int q1.1), (0, .ref h0)]) hx hb dX7_reachedSet_9 rfl hl (by decide) rfl (fun ls hl => ?_)
  obtain ⟨q2, hq2, hd⟩ := bnd_some hd
  have Kq2 : ∀ (H : Heap) (locs : List Loc) (ls : Array Slot), va_P (dC, dI) vwCl [(h0, .inr (7, [.ref h1, .ref h2, .int v_recorded, .ref h3, .ref h4, .ref h5, .int v_padLength, .ref h6, .int v_at, .int v_letter, .int v_hasUnder, .ref h7, .int v_numbersMany])), (h1, .inl (cI, 2628, .inl v_state)), (h6, .inl (cI, 7, .inl q1.2))] H → va_D A [(h0, .inr (7, [.ref h1, .ref h2, .int v_recorded, .ref h3, .ref h4, .ref h5, .int v_padLength, .ref h6, .int v_at, .int v_letter, .int v_hasUnder, .ref h7, .int v_numbersMany])), (h1, .inl (cI, 2628, .inl v_state)), (h6, .inl (cI, 7, .inl q1.2))] → va_S A s.heap H locs → lv_has ls 5 [(2, .int q2)] → W p l e rmX7_reachedSet s m args below meth c H locs 0 0 Q (F0 m 70 ls []) := by
    intro H locs ls hP hD hS hl
    refine lv_iload_n hx hb dX7_reachedSet_70 rfl (lv_at hl 0 rfl) ?_
    cases hd
    exact hend (by rfl) hP hD hS dX7_reachedSet_71
  clear hd
  have KL10 : ∀ (fu : Nat) (y2_10 : Int32) (y3_10 : Int32) (hd : den_X7_reachedSet_L10 v_state q1 fu y2_10 y3_10 = some q2) (H : Heap) (locs : List Loc) (ls : Array Slot), va_P (dC, dI) vwCl [(h0, .inr (7, [.ref h1, .ref h2, .int v_recorded, .ref h3, .ref h4, .ref h5, .int v_padLength, .ref h6, .int v_at, .int v_letter, .int v_hasUnder, .ref h7, .int v_numbersMany])), (h1, .inl (cI, 2628, .inl v_state)), (h6, .inl (cI, 7, .inl q1.2))] H → va_D A [(h0, .inr (7, [.ref h1, .ref h2, .int v_recorded, .ref h3, .ref h4, .ref h5, .int v_padLength, .ref h6, .int v_at, .int v_letter, .int v_hasUnder, .ref h7, .int v_numbersMany])), (h1, .inl (cI, 2628, .inl v_state)), (h6, .inl (cI, 7, .inl q1.2))] → va_S A s.heap H locs → lv_has ls 5 [(0, .ref h0), (1, .int q1.1), (2, .int y2_10), (3, .int y3_10)] → W p l e rmX7_reachedSet s m args below meth c H locs 0 0 Q (F0 m 10 ls []) := by
    intro fu
    induction fu with
    | zero => intro y2_10 y3_10 hd; exact no_some hd
    | succ fu ih =>
      intro y2_10 y3_10 hd H locs ls hP hD hS hl
      rw [den_X7_reachedSet_L10] at hd
      refine lv_iload_n hx hb dX7_reachedSet_10 rfl (lv_at hl 3 rfl) ?_
      refine lv_aload_n hx hb dX7_reachedSet_11 rfl (lv_at hl 0 rfl) ?_
      refine va_get (D := (dC, dI)) (ci := 7) (v := .ref h1) (C := RX7) (T := TX7) (N := 13) hx hb hts inX7_reachedSet_X7 hown hK hP 0 rfl rfl 0 (by decide) (hts _ kX7_reachedSet_1) (fun _ h9 => h9) rfl dX7_reachedSet_12 ?_
      refine lv_iconst (v := 3) hx hb dX7_reachedSet_15 (by decide) ?_
      refine x_iald (k := 3) hx hb hK hP 1 0 rfl rfl (inb_in (by decide)) rfl dX7_reachedSet_16 ?_
      refine lv_icmp_ge (tgt := 70) hx hb dX7_reachedSet_17 (by decide) (fun c3 => ?_) (fun c3 => ?_)
      · replace hd := ite_t c3 hd
        cases hd
        exact Kq2 _ _ _ hP hD hS (lv_sub hl [2] rfl)
      · replace hd := ite_f c3 hd
        refine lv_aload_n hx hb dX7_reachedSet_20 rfl (lv_at hl 0 rfl) ?_
        refine lv_iload_n hx hb dX7_reachedSet_21 rfl (lv_at hl 3 rfl) ?_
        refine lv_iconst (v := 1) hx hb dX7_reachedSet_22 (by decide) ?_
        obtain ⟨q4, hq4, hd⟩ := bnd_some hd
        have hPc : va_P (dC, dI) vwCl [(h0, .inr (7, [.ref h1, .ref h2, .int v_recorded, .ref h3, .ref h4, .ref h5, .int v_padLength, .ref h6, .int v_at, .int v_letter, .int v_hasUnder, .ref h7, .int v_numbersMany])), (h1, .inl (cI, 2628, .inl v_state))] _ := hP.sub [0, 1] rfl
        have hDc := hD.sub (ws' := [(h0, .inr (7, [.ref h1, .ref h2, .int v_recorded, .ref h3, .ref h4, .ref h5, .int v_padLength, .ref h6, .int v_at, .int v_letter, .int v_hasUnder, .ref h7, .int v_numbersMany])), (h1, .inl (cI, 2628, .inl v_state))]) [0, 1] (by decide) rfl
        have hFc := va_free (wc := [(h0, .inr (7, [.ref h1, .ref h2, .int v_recorded, .ref h3, .ref h4, .ref h5, .int v_padLength, .ref h6, .int v_at, .int v_letter, .int v_hasUnder, .ref h7, .int v_numbersMany])), (h1, .inl (cI, 2628, .inl v_state))]) hD hS hA [0, 1] rfl
        refine va_calli (va_runV (As := [.int y3_10, .int (1 : Int32)]) (rest := []) ⟨hx, hb, hml, hown, hts⟩ (c_X7_part l dC dI cI cC cT h0 h1 h2 h3 h4 h5 h6 h7 H.size v_state v_recorded v_padLength v_at v_letter v_hasUnder v_numbersMany y3_10 (1 : Int32) q4 hq4) (cwV 2 hts gX7_reachedSet_X7_part rfl rfl rfl hv_X7_part ⟨Nat.le_of_ble_eq_true rfl, Nat.le_of_ble_eq_true rfl⟩) ⟨preB_fb, va_recv hK hPc (ci := 7) (q0 := 0) rfl rfl, fun U hU hW => preB_mk hU hW hPc hK hDc hN⟩ rfl rfl hl.1 rfl (lv_room (Nat.le_of_ble_eq_true rfl)) dX7_reachedSet_23 ⟨Nat.zero_le _, Nat.zero_le _⟩) hS (fun q _ h => hFc q h) hFc (fun r_ u_ t H locs ht hvm hw hB hz1 hk1 hS => ?_)
        have hw : r_ = q4 := hw
        have hw := hw.symm
        subst hw
        obtain ⟨hP, hD⟩ := x_join (ws' := [(h0, .inr (7, [.ref h1, .ref h2, .int v_recorded, .ref h3, .ref h4, .ref h5, .int v_padLength, .ref h6, .int v_at, .int v_letter, .int v_hasUnder, .ref h7, .int v_numbersMany])), (h1, .inl (cI, 2628, .inl v_state)), (h6, .inl (cI, 7, .inl q1.2))]) hP hD [0, 1] [2] rfl rfl (by decide) (by decide) hk1 hFc ht hB [1, 2, 0] (by decide) rfl
        clear hPc hDc hFc hk1 hB ht hz1 hvm
        refine lv_istore (lv' := [(4, .int q4), (0, .ref h0), (1, .int q1.1), (2, .int y2_10), (3, .int y3_10)]) hx hb dX7_reachedSet_26 hl (by decide) rfl (fun ls hl => ?_)
        refine lv_iload_n hx hb dX7_reachedSet_28 rfl (lv_at hl 3 rfl) ?_
        refine lv_iload_n hx hb dX7_reachedSet_29 rfl (lv_at hl 2 rfl) ?_
        refine lv_iload_n hx hb dX7_reachedSet_30 rfl (lv_at hl 4 rfl) ?_
        refine lv_ishr hx hb dX7_reachedSet_31 ?_
        refine lv_iconst (v := 1) hx hb dX7_reachedSet_32 (by decide) ?_
        refine lv_iand hx hb dX7_reachedSet_33 ?_
        refine lv_iconst (v := 1) hx hb dX7_reachedSet_34 (by decide) ?_
        obtain ⟨q5, hq5, hd⟩ := bnd_some hd
        have Kq5 : ∀ (H : Heap) (locs : List Loc) (ls : Array Slot), va_P (dC, dI) vwCl [(h0, .inr (7, [.ref h1, .ref h2, .int v_recorded, .ref h3, .ref h4, .ref h5, .int v_padLength, .ref h6, .int v_at, .int v_letter, .int v_hasUnder, .ref h7, .int v_numbersMany])), (h1, .inl (cI, 2628, .inl v_state)), (h6, .inl (cI, 7, .inl q1.2))] H → va_D A [(h0, .inr (7, [.ref h1, .ref h2, .int v_recorded, .ref h3, .ref h4, .ref h5, .int v_padLength, .ref h6, .int v_at, .int v_letter, .int v_hasUnder, .ref h7, .int v_numbersMany])), (h1, .inl (cI, 2628, .inl v_state)), (h6, .inl (cI, 7, .inl q1.2))] → va_S A s.heap H locs → lv_has ls 5 [(0, .ref h0), (1, .int q1.1), (3, .int y3_10)] → W p l e rmX7_reachedSet s m args below meth c H locs 0 0 Q (F0 m 62 ls [.int q5, .int y2_10]) := by
          intro H locs ls hP hD hS hl
          refine lv_ior hx hb dX7_reachedSet_62 ?_
          refine lv_istore_n (lv' := [(2, .int (y2_10 ||| q5)), (0, .ref h0), (1, .int q1.1), (3, .int y3_10)]) hx hb dX7_reachedSet_63 rfl hl (by decide) rfl (fun ls hl => ?_)
          refine lv_iinc (v := (y3_10 + (1 : Int32))) (lv' := [(3, .int (y3_10 + (1 : Int32))), (2, .int (y2_10 ||| q5)), (0, .ref h0), (1, .int q1.1)]) hx hb dX7_reachedSet_64 hl (k := 3) rfl (by first | rfl | decide) (by decide) rfl (fun ls hl => ?_)
          refine lv_goto (tgt := 10) hx hb dX7_reachedSet_67 (by decide) ?_
          exact ih (y2_10 ||| q5) (y3_10 + (1 : Int32)) hd _ _ _ hP hD hS (lv_sub hl [2, 3, 1, 0] rfl)
        replace hd := hq5
        clear hq5
        refine lv_icmp_ne (tgt := 61) hx hb dX7_reachedSet_35 (by decide) (fun c6 => ?_) (fun c6 => ?_)
        · replace hd := ite_f c6 hd
          refine lv_iconst (v := 0) hx hb dX7_reachedSet_61 (by decide) ?_
          cases hd
          exact Kq5 _ _ _ hP hD hS (lv_sub hl [1, 2, 4] rfl)
        · replace hd := ite_t c6 hd
          refine lv_iload hx hb dX7_reachedSet_38 (lv_at hl 0 rfl) ?_
          refine lv_bipush (v := -6) hx hb dX7_reachedSet_40 (by decide) ?_
          obtain ⟨J7, eJ7, hd⟩ := nm_ex hd
          have KJ7 : ∀ (u_ : Unit) (hd : J7 u_ = some q5) (H : Heap) (locs : List Loc) (ls : Array Slot), va_P (dC, dI) vwCl [(h0, .inr (7, [.ref h1, .ref h2, .int v_recorded, .ref h3, .ref h4, .ref h5, .int v_padLength, .ref h6, .int v_at, .int v_letter, .int v_hasUnder, .ref h7, .int v_numbersMany])), (h1, .inl (cI, 2628, .inl v_state)), (h6, .inl (cI, 7, .inl q1.2))] H → va_D A [(h0, .inr (7, [.ref h1, .ref h2, .int v_recorded, .ref h3, .ref h4, .ref h5, .int v_padLength, .ref h6, .int v_at, .int v_letter, .int v_hasUnder, .ref h7, .int v_numbersMany])), (h1, .inl (cI, 2628, .inl v_state)), (h6, .inl (cI, 7, .inl q1.2))] → va_S A s.heap H locs → lv_has ls 5 [(0, .ref h0), (1, .int q1.1), (3, .int y3_10)] → W p l e rmX7_reachedSet s m args below meth c H locs 0 0 Q (F0 m 55 ls [.int y2_10]) := by
            intro u_ hd H locs ls hP hD hS hl
            replace hd := jx1 eJ7 hd
            refine lv_iconst (v := 1) hx hb dX7_reachedSet_55 (by decide) ?_
            refine lv_iload_n hx hb dX7_reachedSet_56 rfl (lv_at hl 2 rfl) ?_
            refine lv_ishl hx hb dX7_reachedSet_57 ?_
            refine lv_goto (tgt := 62) hx hb dX7_reachedSet_58 (by decide) ?_
            cases hd
            exact Kq5 _ _ _ hP hD hS (lv_sub hl [0, 1, 2] rfl)
          refine lv_icmp_eq (tgt := 55) hx hb dX7_reachedSet_42 (by decide) (fun c8 => ?_) (fun c8 => ?_)
          · replace hd := ite_t c8 hd
            exact KJ7 () hd _ _ _ hP hD hS (lv_sub hl [1, 2, 4] rfl)
          · replace hd := ite_f c8 hd
            refine lv_iload_n hx hb dX7_reachedSet_45 rfl (lv_at hl 3 rfl) ?_
            refine lv_iload hx hb dX7_reachedSet_46 (lv_at hl 0 rfl) ?_
            refine lv_ishr hx hb dX7_reachedSet_48 ?_
            refine lv_iconst (v := 1) hx hb dX7_reachedSet_49 (by decide) ?_
            refine lv_iand hx hb dX7_reachedSet_50 ?_
            refine lv_iconst (v := 1) hx hb dX7_reachedSet_51 (by decide) ?_
            refine lv_icmp_ne (tgt := 61) hx hb dX7_reachedSet_52 (by decide) (fun c9 => ?_) (fun c9 => ?_)
            · replace hd := ite_f c9 hd
              refine lv_iconst (v := 0) hx hb dX7_reachedSet_61 (by decide) ?_
              cases hd
              exact Kq5 _ _ _ hP hD hS (lv_sub hl [1, 2, 4] rfl)
            · replace hd := ite_t c9 hd
              exact KJ7 () hd _ _ _ hP hD hS (lv_sub hl [1, 2, 4] rfl)
  exact KL10 FU (0 : Int32) (0 : Int32) hq2 _ _ _ hP hD hS (lv_sub hl [3, 2, 1, 0] rfl)
def rmX7_reached : Room := { frames := 10, cells := 0, slots := 0, locals := 237 }
theorem hp_X7_reached : yX7_reached.cls ≠ "java/lang/invoke/MethodHandle" ∧ yX7_reached.cls ≠ "java/lang/invoke/VarHandle" ∧ (parseMethodDescriptor yX7_reached.desc).map (fun d => d.parameters.length) = some 0 := by decide +kernel
theorem hv_X7_reached : yX7_reached.cls = RX7 ∧ yX7_reached.cls ≠ "java/lang/invoke/MethodHandle" ∧ yX7_reached.cls ≠ "java/lang/invoke/VarHandle" ∧ (parseMethodDescriptor yX7_reached.desc).map (fun d => d.parameters.length) = some 0 := by decide +kernel
set_option maxHeartbeats 4000000 in
set_option maxRecDepth 100000 in
theorem c_X7_reached (l : Launch) (dC : Nat → ClassId) (dI : Nat → Nat → Nat) (cI cC cT : ClassId) (h0 h1 h2 h3 h4 h5 h6 h7 : Nat) (sz : Nat) (v_state : (Nat → Int32)) (v_recorded : Int32) (v_padLength : Int32) (v_found : (Nat → Int32)) (v_at : Int32) (v_letter : Int32) (v_hasUnder : Int32) (v_numbersMany : Int32) (r : (Int32 × (Nat → Int32))) (hd : den_X7_reached v_state v_found = some r) : Met l yX7_reached wsX7_reached rmX7_reached (va_Pc [.ref h0] (preB sz (dC, dI) [(h0, .inr (7, [.ref h1, .ref h2, .int v_recorded, .ref h3, .ref h4, .ref h5, .int v_padLength, .ref h6, .int v_at, .int v_letter, .int v_hasUnder, .ref h7, .int v_numbersMany])), (h1, .inl (cI, 2628, .inl v_state)), (h6, .inl (cI, 7, .inl v_found))] [(cI, .int), (cC, .char), (cT, .object "CassetteTones$Tape")])) (va_Qi (S := Unit) (fun v _ => v = r.1) (fun _ t => posB (dC, dI) [(h0, .inr (7, [.ref h1, .ref h2, .int v_recorded, .ref h3, .ref h4, .ref h5, .int v_padLength, .ref h6, .int v_at, .int v_letter, .int v_hasUnder, .ref h7, .int v_numbersMany])), (h1, .inl (cI, 2628, .inl v_state)), (h6, .inl (cI, 7, .inl r.2))] [(cI, .int), (cC, .char), (cT, .object "CassetteTones$Tape")] (va_A [(h0, .inr (7, [.ref h1, .ref h2, .int v_recorded, .ref h3, .ref h4, .ref h5, .int v_padLength, .ref h6, .int v_at, .int v_letter, .int v_hasUnder, .ref h7, .int v_numbersMany])), (h1, .inl (cI, 2628, .inl v_state)), (h6, .inl (cI, 7, .inl v_found))] sz) t) (va_A [(h0, .inr (7, [.ref h1, .ref h2, .int v_recorded, .ref h3, .ref h4, .ref h5, .int v_padLength, .ref h6, .int v_at, .int v_letter, .int v_hasUnder, .ref h7, .int v_numbersMany])), (h1, .inl (cI, 2628, .inl v_state)), (h6, .inl (cI, 7, .inl v_found))] sz)) 0 0 (va_A [(h0, .inr (7, [.ref h1, .ref h2, .int v_recorded, .ref h3, .ref h4, .ref h5, .int v_padLength, .ref h6, .int v_at, .int v_letter, .int v_hasUnder, .ref h7, .int v_numbersMany])), (h1, .inl (cI, 2628, .inl v_state)), (h6, .inl (cI, 7, .inl v_found))] sz) := by
  refine x_met_i (by decide) rfl (Nat.le_of_ble_eq_true rfl) ?_
  intro p e s m args below meth c A Q H locs ls hx hb hml hown hts hK hN hA hP hD hS hl hend
  have hown : s.vm.findClass RX7 = some m.cls := hown
  have hl : lv_has ls 1 [(0, .ref h0)] := hl
  unfold den_X7_reached at hd
  refine lv_aload_n hx hb dX7_reached_0 rfl (lv_at hl 0 rfl) ?_
  obtain ⟨q1, hq1, hd⟩ := bnd_some hd
  have hPc : va_P (dC, dI) vwCl [(h0, .inr (7, [.ref h1, .ref h2, .int v_recorded, .ref h3, .ref h4, .ref h5, .int v_padLength, .ref h6, .int v_at, .int v_letter, .int v_hasUnder, .ref h7, .int v_numbersMany])), (h1, .inl (cI, 2628, .inl v_state)), (h6, .inl (cI, 7, .inl v_found))] _ := hP.sub [0, 1, 2] rfl
  have hDc := hD.sub (ws' := [(h0, .inr (7, [.ref h1, .ref h2, .int v_recorded, .ref h3, .ref h4, .ref h5, .int v_padLength, .ref h6, .int v_at, .int v_letter, .int v_hasUnder, .ref h7, .int v_numbersMany])), (h1, .inl (cI, 2628, .inl v_state)), (h6, .inl (cI, 7, .inl v_found))]) [0, 1, 2] (by decide) rfl
  have hFc := va_free (wc := [(h0, .inr (7, [.ref h1, .ref h2, .int v_recorded, .ref h3, .ref h4, .ref h5, .int v_padLength, .ref h6, .int v_at, .int v_letter, .int v_hasUnder, .ref h7, .int v_numbersMany])), (h1, .inl (cI, 2628, .inl v_state)), (h6, .inl (cI, 7, .inl v_found))]) hD hS hA [0, 1, 2] rfl
  refine va_calli (va_runV (As := []) (rest := []) ⟨hx, hb, hml, hown, hts⟩ (c_X7_reachedSet l dC dI cI cC cT h0 h1 h2 h3 h4 h5 h6 h7 H.size v_state v_recorded v_padLength v_found v_at v_letter v_hasUnder v_numbersMany q1 hq1) (cwV 0 hts gX7_reached_X7_reachedSet rfl rfl rfl hv_X7_reachedSet ⟨Nat.le_of_ble_eq_true rfl, Nat.le_of_ble_eq_true rfl⟩) ⟨preB_fb, va_recv hK hPc (ci := 7) (q0 := 0) rfl rfl, fun U hU hW => preB_mk hU hW hPc hK hDc hN⟩ rfl rfl hl.1 rfl (lv_room (Nat.le_of_ble_eq_true rfl)) dX7_reached_1 ⟨Nat.zero_le _, Nat.zero_le _⟩) hS (fun q _ h => hFc q h) hFc (fun r_ u_ t H locs ht hvm hw hB hz1 hk1 hS => ?_)
  have hw : r_ = q1.1 := hw
  have hw := hw.symm
  subst hw
  obtain ⟨hP, hD⟩ := x_join (ws' := [(h0, .inr (7, [.ref h1, .ref h2, .int v_recorded, .ref h3, .ref h4, .ref h5, .int v_padLength, .ref h6, .int v_at, .int v_letter, .int v_hasUnder, .ref h7, .int v_numbersMany])), (h1, .inl (cI, 2628, .inl v_state)), (h6, .inl (cI, 7, .inl q1.2))]) hP hD [0, 1, 2] [] rfl rfl (by decide) (by decide) hk1 hFc ht hB [0, 1, 2] (by decide) rfl
  clear hPc hDc hFc hk1 hB ht hz1 hvm
  cases hd
  exact hend (by rfl) hP hD hS dX7_reached_4
def rmX7_farFrom : Room := { frames := 4, cells := 0, slots := 0, locals := 87 }
theorem hp_X7_farFrom : yX7_farFrom.cls ≠ "java/lang/invoke/MethodHandle" ∧ yX7_farFrom.cls ≠ "java/lang/invoke/VarHandle" ∧ (parseMethodDescriptor yX7_farFrom.desc).map (fun d => d.parameters.length) = some 2 := by decide +kernel
theorem hv_X7_farFrom : yX7_farFrom.cls = RX7 ∧ yX7_farFrom.cls ≠ "java/lang/invoke/MethodHandle" ∧ yX7_farFrom.cls ≠ "java/lang/invoke/VarHandle" ∧ (parseMethodDescriptor yX7_farFrom.desc).map (fun d => d.parameters.length) = some 2 := by decide +kernel
set_option maxHeartbeats 4000000 in
set_option maxRecDepth 100000 in
theorem c_X7_farFrom (l : Launch) (dC : Nat → ClassId) (dI : Nat → Nat → Nat) (cI cC cT : ClassId) (h0 h1 h2 h3 h4 h5 h6 h7 : Nat) (sz : Nat) (v_state : (Nat → Int32)) (v_recorded : Int32) (v_padLength : Int32) (v_at : Int32) (v_letter : Int32) (v_hasUnder : Int32) (v_numbersMany : Int32) (p1 : Int32) (p2 : Int32) (r : Int32) (hd : den_X7_farFrom v_state p1 p2 = some r) : Met l yX7_farFrom wsX7_farFrom rmX7_farFrom (va_Pc [.ref h0, .int p1, .int p2] (preB sz (dC, dI) [(h0, .inr (7, [.ref h1, .ref h2, .int v_recorded, .ref h3, .ref h4, .ref h5, .int v_padLength, .ref h6, .int v_at, .int v_letter, .int v_hasUnder, .ref h7, .int v_numbersMany])), (h1, .inl (cI, 2628, .inl v_state))] [(cI, .int), (cC, .char), (cT, .object "CassetteTones$Tape")])) (va_Qi (S := Unit) (fun v _ => v = r) (fun _ t => posB (dC, dI) [(h0, .inr (7, [.ref h1, .ref h2, .int v_recorded, .ref h3, .ref h4, .ref h5, .int v_padLength, .ref h6, .int v_at, .int v_letter, .int v_hasUnder, .ref h7, .int v_numbersMany])), (h1, .inl (cI, 2628, .inl v_state))] [(cI, .int), (cC, .char), (cT, .object "CassetteTones$Tape")] (va_A [(h0, .inr (7, [.ref h1, .ref h2, .int v_recorded, .ref h3, .ref h4, .ref h5, .int v_padLength, .ref h6, .int v_at, .int v_letter, .int v_hasUnder, .ref h7, .int v_numbersMany])), (h1, .inl (cI, 2628, .inl v_state))] sz) t) (va_A [(h0, .inr (7, [.ref h1, .ref h2, .int v_recorded, .ref h3, .ref h4, .ref h5, .int v_padLength, .ref h6, .int v_at, .int v_letter, .int v_hasUnder, .ref h7, .int v_numbersMany])), (h1, .inl (cI, 2628, .inl v_state))] sz)) 0 0 (va_A [(h0, .inr (7, [.ref h1, .ref h2, .int v_recorded, .ref h3, .ref h4, .ref h5, .int v_padLength, .ref h6, .int v_at, .int v_letter, .int v_hasUnder, .ref h7, .int v_numbersMany])), (h1, .inl (cI, 2628, .inl v_state))] sz) := by
  refine x_met_i (by decide) rfl (Nat.le_of_ble_eq_true rfl) ?_
  intro p e s m args below meth c A Q H locs ls hx hb hml hown hts hK hN hA hP hD hS hl hend
  have hown : s.vm.findClass RX7 = some m.cls := hown
  have hl : lv_has ls 4 [(0, .ref h0), (1, .int p1), (2, .int p2)] := hl
  unfold den_X7_farFrom at hd
  refine lv_aload_n hx hb dX7_farFrom_0 rfl (lv_at hl 0 rfl) ?_
  refine lv_aload_n hx hb dX7_farFrom_1 rfl (lv_at hl 0 rfl) ?_
  refine lv_iload_n hx hb dX7_farFrom_2 rfl (lv_at hl 1 rfl) ?_
  obtain ⟨q1, hq1, hd⟩ := bnd_some hd
  have hPc : va_P (dC, dI) vwCl [(h0, .inr (7, [.ref h1, .ref h2, .int v_recorded, .ref h3, .ref h4, .ref h5, .int v_padLength, .ref h6, .int v_at, .int v_letter, .int v_hasUnder, .ref h7, .int v_numbersMany])), (h1, .inl (cI, 2628, .inl v_state))] _ := hP.sub [0, 1] rfl
  have hDc := hD.sub (ws' := [(h0, .inr (7, [.ref h1, .ref h2, .int v_recorded, .ref h3, .ref h4, .ref h5, .int v_padLength, .ref h6, .int v_at, .int v_letter, .int v_hasUnder, .ref h7, .int v_numbersMany])), (h1, .inl (cI, 2628, .inl v_state))]) [0, 1] (by decide) rfl
  have hFc := va_free (wc := [(h0, .inr (7, [.ref h1, .ref h2, .int v_recorded, .ref h3, .ref h4, .ref h5, .int v_padLength, .ref h6, .int v_at, .int v_letter, .int v_hasUnder, .ref h7, .int v_numbersMany])), (h1, .inl (cI, 2628, .inl v_state))]) hD hS hA [0, 1] rfl
  refine va_calli (va_runV (As := [.int p1]) (rest := [.ref h0]) ⟨hx, hb, hml, hown, hts⟩ (c_X7_firstOf l dC dI cI cC cT h0 h1 h2 h3 h4 h5 h6 h7 H.size v_state v_recorded v_padLength v_at v_letter v_hasUnder v_numbersMany p1 q1 hq1) (cwV 1 hts gX7_farFrom_X7_firstOf rfl rfl rfl hv_X7_firstOf ⟨Nat.le_of_ble_eq_true rfl, Nat.le_of_ble_eq_true rfl⟩) ⟨preB_fb, va_recv hK hPc (ci := 7) (q0 := 0) rfl rfl, fun U hU hW => preB_mk hU hW hPc hK hDc hN⟩ rfl rfl hl.1 rfl (lv_room (Nat.le_of_ble_eq_true rfl)) dX7_farFrom_3 ⟨Nat.zero_le _, Nat.zero_le _⟩) hS (fun q _ h => hFc q h) hFc (fun r_ u_ t H locs ht hvm hw hB hz1 hk1 hS => ?_)
  have hw : r_ = q1 := hw
  have hw := hw.symm
  subst hw
  obtain ⟨hP, hD⟩ := x_join (ws' := [(h0, .inr (7, [.ref h1, .ref h2, .int v_recorded, .ref h3, .ref h4, .ref h5, .int v_padLength, .ref h6, .int v_at, .int v_letter, .int v_hasUnder, .ref h7, .int v_numbersMany])), (h1, .inl (cI, 2628, .inl v_state))]) hP hD [0, 1] [] rfl rfl (by decide) (by decide) hk1 hFc ht hB [0, 1] (by decide) rfl
  clear hPc hDc hFc hk1 hB ht hz1 hvm
  obtain ⟨q2, hq2, hd⟩ := bnd_some hd
  have hPc : va_P (dC, dI) vwCl [(h0, .inr (7, [.ref h1, .ref h2, .int v_recorded, .ref h3, .ref h4, .ref h5, .int v_padLength, .ref h6, .int v_at, .int v_letter, .int v_hasUnder, .ref h7, .int v_numbersMany])), (h1, .inl (cI, 2628, .inl v_state))] _ := hP.sub [0, 1] rfl
  have hDc := hD.sub (ws' := [(h0, .inr (7, [.ref h1, .ref h2, .int v_recorded, .ref h3, .ref h4, .ref h5, .int v_padLength, .ref h6, .int v_at, .int v_letter, .int v_hasUnder, .ref h7, .int v_numbersMany])), (h1, .inl (cI, 2628, .inl v_state))]) [0, 1] (by decide) rfl
  have hFc := va_free (wc := [(h0, .inr (7, [.ref h1, .ref h2, .int v_recorded, .ref h3, .ref h4, .ref h5, .int v_padLength, .ref h6, .int v_at, .int v_letter, .int v_hasUnder, .ref h7, .int v_numbersMany])), (h1, .inl (cI, 2628, .inl v_state))]) hD hS hA [0, 1] rfl
  refine va_calli (va_runV (As := [.int q1]) (rest := []) ⟨hx, hb, hml, hown, hts⟩ (c_X7_counterOf l dC dI cI cC cT h0 h1 h2 h3 h4 h5 h6 h7 H.size v_state v_recorded v_padLength v_at v_letter v_hasUnder v_numbersMany q1 q2 hq2) (cwV 1 hts gX7_farFrom_X7_counterOf rfl rfl rfl hv_X7_counterOf ⟨Nat.le_of_ble_eq_true rfl, Nat.le_of_ble_eq_true rfl⟩) ⟨preB_fb, va_recv hK hPc (ci := 7) (q0 := 0) rfl rfl, fun U hU hW => preB_mk hU hW hPc hK hDc hN⟩ rfl rfl hl.1 rfl (lv_room (Nat.le_of_ble_eq_true rfl)) dX7_farFrom_6 ⟨Nat.zero_le _, Nat.zero_le _⟩) hS (fun q _ h => hFc q h) hFc (fun r_ u_ t H locs ht hvm hw hB hz1 hk1 hS => ?_)
  have hw : r_ = q2 := hw
  have hw := hw.symm
  subst hw
  obtain ⟨hP, hD⟩ := x_join (ws' := [(h0, .inr (7, [.ref h1, .ref h2, .int v_recorded, .ref h3, .ref h4, .ref h5, .int v_padLength, .ref h6, .int v_at, .int v_letter, .int v_hasUnder, .ref h7, .int v_numbersMany])), (h1, .inl (cI, 2628, .inl v_state))]) hP hD [0, 1] [] rfl rfl (by decide) (by decide) hk1 hFc ht hB [0, 1] (by decide) rfl
  clear hPc hDc hFc hk1 hB ht hz1 hvm
  refine lv_iload_n hx hb dX7_farFrom_9 rfl (lv_at hl 2 rfl) ?_
  refine lv_isub hx hb dX7_farFrom_10 ?_
  obtain ⟨q3, hq3, hd⟩ := bnd_some hd
  have hPc : va_P (dC, dI) vwCl [] _ := hP.sub [] rfl
  have hDc := hD.sub (ws' := []) [] (by decide) rfl
  have hFc := va_free (wc := []) hD hS hA [] rfl
  refine va_calli (va_runS (As := [.int (q2 - p2)]) (rest := []) ⟨hx, hb, hml, hown, hts⟩ (c_X7_size l dC dI cI cC cT H.size (q2 - p2) q3 hq3) (va_cwS 1 hts gX7_farFrom_X7_size rfl rfl rfl hp_X7_size ⟨Nat.le_of_ble_eq_true rfl, Nat.le_of_ble_eq_true rfl⟩) ⟨preB_fb, fun U hU hW => preB_mk hU hW hPc hK hDc hN⟩ rfl rfl hl.1 rfl (lv_room (Nat.le_of_ble_eq_true rfl)) dX7_farFrom_11 ⟨Nat.zero_le _, Nat.zero_le _⟩) hS (fun q _ h => hFc q h) hFc (fun r_ u_ t H locs ht hvm hw hB hz1 hk1 hS => ?_)
  have hw : r_ = q3 := hw
  have hw := hw.symm
  subst hw
  obtain ⟨hP, hD⟩ := x_join (ws' := [(h0, .inr (7, [.ref h1, .ref h2, .int v_recorded, .ref h3, .ref h4, .ref h5, .int v_padLength, .ref h6, .int v_at, .int v_letter, .int v_hasUnder, .ref h7, .int v_numbersMany])), (h1, .inl (cI, 2628, .inl v_state))]) hP hD [] [0, 1] rfl rfl (by decide) (by decide) hk1 hFc ht hB [0, 1] (by decide) rfl
  clear hPc hDc hFc hk1 hB ht hz1 hvm
  refine lv_istore_n (lv' := [(3, .int q3), (0, .ref h0), (1, .int p1), (2, .int p2)]) hx hb dX7_farFrom_14 rfl hl (by decide) rfl (fun ls hl => ?_)
  refine lv_iload_n hx hb dX7_farFrom_15 rfl (lv_at hl 0 rfl) ?_
  refine lv_sipush (v := 1000) hx hb dX7_farFrom_16 (by decide) ?_
  refine lv_iload_n hx hb dX7_farFrom_19 rfl (lv_at hl 0 rfl) ?_
  refine lv_isub hx hb dX7_farFrom_20 ?_
  refine lv_icmp_ge (tgt := 28) hx hb dX7_farFrom_21 (by decide) (fun c4 => ?_) (fun c4 => ?_)
  · replace hd := ite_t c4 hd
    refine lv_sipush (v := 1000) hx hb dX7_farFrom_28 (by decide) ?_
    refine lv_iload_n hx hb dX7_farFrom_31 rfl (lv_at hl 0 rfl) ?_
    refine lv_isub hx hb dX7_farFrom_32 ?_
    cases hd
    exact hend (by rfl) hP hD hS dX7_farFrom_33
  · replace hd := ite_f c4 hd
    refine lv_iload_n hx hb dX7_farFrom_24 rfl (lv_at hl 0 rfl) ?_
    refine lv_goto (tgt := 33) hx hb dX7_farFrom_25 (by decide) ?_
    cases hd
    exact hend (by rfl) hP hD hS dX7_farFrom_33
def rmX7_near : Room := { frames := 5, cells := 0, slots := 0, locals := 110 }
theorem kX7_near_1 : (Cond.fieldLink RX7 7 "CassetteTonesModel" "state" "[I") ∈ wsX7_near := List.mem_of_getElem? (i := 1) (by decide +kernel)
theorem inX7_near_X7 : ∀ w ∈ wsX70, w ∈ wsX7_near := by decide +kernel
theorem hp_X7_near : yX7_near.cls ≠ "java/lang/invoke/MethodHandle" ∧ yX7_near.cls ≠ "java/lang/invoke/VarHandle" ∧ (parseMethodDescriptor yX7_near.desc).map (fun d => d.parameters.length) = some 2 := by decide +kernel
theorem hv_X7_near : yX7_near.cls = RX7 ∧ yX7_near.cls ≠ "java/lang/invoke/MethodHandle" ∧ yX7_near.cls ≠ "java/lang/invoke/VarHandle" ∧ (parseMethodDescriptor yX7_near.desc).map (fun d => d.parameters.length) = some 2 := by decide +kernel
set_option maxHeartbeats 4000000 in
set_option maxRecDepth 100000 in
theorem c_X7_near (l : Launch) (dC : Nat → ClassId) (dI : Nat → Nat → Nat) (cI cC cT : ClassId) (h0 h1 h2 h3 h4 h5 h6 h7 : Nat) (sz : Nat) (v_state : (Nat → Int32)) (v_recorded : Int32) (v_padLength : Int32) (v_at : Int32) (v_letter : Int32) (v_hasUnder : Int32) (v_numbersMany : Int32) (p1 : Int32) (p2 : Int32) (r : Int32) (hd : den_X7_near v_state p1 p2 = some r) : Met l yX7_near wsX7_near rmX7_near (va_Pc [.ref h0, .int p1, .int p2] (preB sz (dC, dI) [(h0, .inr (7, [.ref h1, .ref h2, .int v_recorded, .ref h3, .ref h4, .ref h5, .int v_padLength, .ref h6, .int v_at, .int v_letter, .int v_hasUnder, .ref h7, .int v_numbersMany])), (h1, .inl (cI, 2628, .inl v_state))] [(cI, .int), (cC, .char), (cT, .object "CassetteTones$Tape")])) (va_Qi (S := Unit) (fun v _ => v = r) (fun _ t => posB (dC, dI) [(h0, .inr (7, [.ref h1, .ref h2, .int v_recorded, .ref h3, .ref h4, .ref h5, .int v_padLength, .ref h6, .int v_at, .int v_letter, .int v_hasUnder, .ref h7, .int v_numbersMany])), (h1, .inl (cI, 2628, .inl v_state))] [(cI, .int), (cC, .char), (cT, .object "CassetteTones$Tape")] (va_A [(h0, .inr (7, [.ref h1, .ref h2, .int v_recorded, .ref h3, .ref h4, .ref h5, .int v_padLength, .ref h6, .int v_at, .int v_letter, .int v_hasUnder, .ref h7, .int v_numbersMany])), (h1, .inl (cI, 2628, .inl v_state))] sz) t) (va_A [(h0, .inr (7, [.ref h1, .ref h2, .int v_recorded, .ref h3, .ref h4, .ref h5, .int v_padLength, .ref h6, .int v_at, .int v_letter, .int v_hasUnder, .ref h7, .int v_numbersMany])), (h1, .inl (cI, 2628, .inl v_state))] sz)) 0 0 (va_A [(h0, .inr (7, [.ref h1, .ref h2, .int v_recorded, .ref h3, .ref h4, .ref h5, .int v_padLength, .ref h6, .int v_at, .int v_letter, .int v_hasUnder, .ref h7, .int v_numbersMany])), (h1, .inl (cI, 2628, .inl v_state))] sz) := by
  refine x_met_i (by decide) rfl (Nat.le_of_ble_eq_true rfl) ?_
  intro p e s m args below meth c A Q H locs ls hx hb hml hown hts hK hN hA hP hD hS hl hend
  have hown : s.vm.findClass RX7 = some m.cls := hown
  have hl : lv_has ls 7 [(0, .ref h0), (1, .int p1), (2, .int p2)] := hl
  unfold den_X7_near at hd
  refine lv_iload_n hx hb dX7_near_0 rfl (lv_at hl 2 rfl) ?_
  refine lv_iconst (v := 0) hx hb dX7_near_1 (by decide) ?_
  refine lv_aload_n hx hb dX7_near_2 rfl (lv_at hl 0 rfl) ?_
  refine va_get (D := (dC, dI)) (ci := 7) (v := .ref h1) (C := RX7) (T := TX7) (N := 13) hx hb hts inX7_near_X7 hown hK hP 0 rfl rfl 0 (by decide) (hts _ kX7_near_1) (fun _ h9 => h9) rfl dX7_near_3 ?_
  refine lv_iconst (v := 3) hx hb dX7_near_6 (by decide) ?_
  refine x_iald (k := 3) hx hb hK hP 1 0 rfl rfl (inb_in (by decide)) rfl dX7_near_7 ?_
  refine lv_iconst (v := 1) hx hb dX7_near_8 (by decide) ?_
  refine lv_isub hx hb dX7_near_9 ?_
  obtain ⟨q1, hq1, hd⟩ := bnd_some hd
  have hPc : va_P (dC, dI) vwCl [] _ := hP.sub [] rfl
  have hDc := hD.sub (ws' := []) [] (by decide) rfl
  have hFc := va_free (wc := []) hD hS hA [] rfl
  refine va_calli (va_runS (As := [.int p2, .int (0 : Int32), .int ((v_state 3) - (1 : Int32))]) (rest := []) ⟨hx, hb, hml, hown, hts⟩ (c_X7_within l dC dI cI cC cT H.size p2 (0 : Int32) ((v_state 3) - (1 : Int32)) q1 hq1) (va_cwS 3 hts gX7_near_X7_within rfl rfl rfl hp_X7_within ⟨Nat.le_of_ble_eq_true rfl, Nat.le_of_ble_eq_true rfl⟩) ⟨preB_fb, fun U hU hW => preB_mk hU hW hPc hK hDc hN⟩ rfl rfl hl.1 rfl (lv_room (Nat.le_of_ble_eq_true rfl)) dX7_near_10 ⟨Nat.zero_le _, Nat.zero_le _⟩) hS (fun q _ h => hFc q h) hFc (fun r_ u_ t H locs ht hvm hw hB hz1 hk1 hS => ?_)
  have hw : r_ = q1 := hw
  have hw := hw.symm
  subst hw
  obtain ⟨hP, hD⟩ := x_join (ws' := [(h0, .inr (7, [.ref h1, .ref h2, .int v_recorded, .ref h3, .ref h4, .ref h5, .int v_padLength, .ref h6, .int v_at, .int v_letter, .int v_hasUnder, .ref h7, .int v_numbersMany])), (h1, .inl (cI, 2628, .inl v_state))]) hP hD [] [0, 1] rfl rfl (by decide) (by decide) hk1 hFc ht hB [0, 1] (by decide) rfl
  clear hPc hDc hFc hk1 hB ht hz1 hvm
  refine lv_if_ne (tgt := 18) hx hb dX7_near_13 (by decide) (fun c2 => ?_) (fun c2 => ?_)
  · replace hd := ite_f c2 hd
    refine lv_iload_n hx hb dX7_near_18 rfl (lv_at hl 1 rfl) ?_
    refine lv_iconst (v := 0) hx hb dX7_near_19 (by decide) ?_
    refine lv_sipush (v := 999) hx hb dX7_near_20 (by decide) ?_
    obtain ⟨q3, hq3, hd⟩ := bnd_some hd
    have hPc : va_P (dC, dI) vwCl [] _ := hP.sub [] rfl
    have hDc := hD.sub (ws' := []) [] (by decide) rfl
    have hFc := va_free (wc := []) hD hS hA [] rfl
    refine va_calli (va_runS (As := [.int p1, .int (0 : Int32), .int (999 : Int32)]) (rest := []) ⟨hx, hb, hml, hown, hts⟩ (c_X7_within l dC dI cI cC cT H.size p1 (0 : Int32) (999 : Int32) q3 hq3) (va_cwS 3 hts gX7_near_X7_within rfl rfl rfl hp_X7_within ⟨Nat.le_of_ble_eq_true rfl, Nat.le_of_ble_eq_true rfl⟩) ⟨preB_fb, fun U hU hW => preB_mk hU hW hPc hK hDc hN⟩ rfl rfl hl.1 rfl (lv_room (Nat.le_of_ble_eq_true rfl)) dX7_near_23 ⟨Nat.zero_le _, Nat.zero_le _⟩) hS (fun q _ h => hFc q h) hFc (fun r_ u_ t H locs ht hvm hw hB hz1 hk1 hS => ?_)
    have hw : r_ = q3 := hw
    have hw := hw.symm
    subst hw
    obtain ⟨hP, hD⟩ := x_join (ws' := [(h0, .inr (7, [.ref h1, .ref h2, .int v_recorded, .ref h3, .ref h4, .ref h5, .int v_padLength, .ref h6, .int v_at, .int v_letter, .int v_hasUnder, .ref h7, .int v_numbersMany])), (h1, .inl (cI, 2628, .inl v_state))]) hP hD [] [0, 1] rfl rfl (by decide) (by decide) hk1 hFc ht hB [0, 1] (by decide) rfl
    clear hPc hDc hFc hk1 hB ht hz1 hvm
    refine lv_if_ne (tgt := 32) hx hb dX7_near_26 (by decide) (fun c4 => ?_) (fun c4 => ?_)
    · replace hd := ite_f c4 hd
      refine lv_bipush (v := -6) hx hb dX7_near_32 (by decide) ?_
      refine lv_istore_n (lv' := [(3, .int (-6 : Int32)), (0, .ref h0), (1, .int p1), (2, .int p2)]) hx hb dX7_near_34 rfl hl (by decide) rfl (fun ls hl => ?_)
      refine lv_iconst (v := 0) hx hb dX7_near_35 (by decide) ?_
      refine lv_istore (lv' := [(4, .int (0 : Int32)), (3, .int (-6 : Int32)), (0, .ref h0), (1, .int p1), (2, .int p2)]) hx hb dX7_near_36 hl (by decide) rfl (fun ls hl => ?_)
      obtain ⟨q5, hq5, hd⟩ := bnd_some hd
      have Kq5 : ∀ (H : Heap) (locs : List Loc) (ls : Array Slot), va_P (dC, dI) vwCl [(h0, .inr (7, [.ref h1, .ref h2, .int v_recorded, .ref h3, .ref h4, .ref h5, .int v_padLength, .ref h6, .int v_at, .int v_letter, .int v_hasUnder, .ref h7, .int v_numbersMany])), (h1, .inl (cI, 2628, .inl v_state))] H → va_D A [(h0, .inr (7, [.ref h1, .ref h2, .int v_recorded, .ref h3, .ref h4, .ref h5, .int v_padLength, .ref h6, .int v_at, .int v_letter, .int v_hasUnder, .ref h7, .int v_numbersMany])), (h1, .inl (cI, 2628, .inl v_state))] → va_S A s.heap H locs → lv_has ls 7 [(3, .int q5)] → W p l e rmX7_near s m args below meth c H locs 0 0 Q (F0 m 142 ls []) := by
        intro H locs ls hP hD hS hl
        refine lv_iload_n hx hb dX7_near_142 rfl (lv_at hl 0 rfl) ?_
        cases hd
        exact hend (by rfl) hP hD hS dX7_near_143
      clear hd
      have KL19 : ∀ (fu : Nat) (y3_38 : Int32) (y4_38 : Int32) (hd : den_X7_near_L38 p1 p2 v_state fu y3_38 y4_38 = some q5) (H : Heap) (locs : List Loc) (ls : Array Slot), va_P (dC, dI) vwCl [(h0, .inr (7, [.ref h1, .ref h2, .int v_recorded, .ref h3, .ref h4, .ref h5, .int v_padLength, .ref h6, .int v_at, .int v_letter, .int v_hasUnder, .ref h7, .int v_numbersMany])), (h1, .inl (cI, 2628, .inl v_state))] H → va_D A [(h0, .inr (7, [.ref h1, .ref h2, .int v_recorded, .ref h3, .ref h4, .ref h5, .int v_padLength, .ref h6, .int v_at, .int v_letter, .int v_hasUnder, .ref h7, .int v_numbersMany])), (h1, .inl (cI, 2628, .inl v_state))] → va_S A s.heap H locs → lv_has ls 7 [(0, .ref h0), (1, .int p1), (2, .int p2), (3, .int y3_38), (4, .int y4_38)] → W p l e rmX7_near s m args below meth c H locs 0 0 Q (F0 m 38 ls []) := by
        intro fu
        induction fu with
        | zero => intro y3_38 y4_38 hd; exact no_some hd
        | succ fu ih =>
          intro y3_38 y4_38 hd H locs ls hP hD hS hl
          rw [den_X7_near_L38] at hd
          refine lv_iload hx hb dX7_near_38 (lv_at hl 4 rfl) ?_
          refine lv_aload_n hx hb dX7_near_40 rfl (lv_at hl 0 rfl) ?_
          refine va_get (D := (dC, dI)) (ci := 7) (v := .ref h1) (C := RX7) (T := TX7) (N := 13) hx hb hts inX7_near_X7 hown hK hP 0 rfl rfl 0 (by decide) (hts _ kX7_near_1) (fun _ h9 => h9) rfl dX7_near_41 ?_
          refine lv_iconst (v := 3) hx hb dX7_near_44 (by decide) ?_
          refine x_iald (k := 3) hx hb hK hP 1 0 rfl rfl (inb_in (by decide)) rfl dX7_near_45 ?_
          refine lv_icmp_ge (tgt := 142) hx hb dX7_near_46 (by decide) (fun c6 => ?_) (fun c6 => ?_)
          · replace hd := ite_t c6 hd
            cases hd
            exact Kq5 _ _ _ hP hD hS (lv_sub hl [3] rfl)
          · replace hd := ite_f c6 hd
            refine lv_iconst (v := 0) hx hb dX7_near_49 (by decide) ?_
            refine lv_istore (lv' := [(5, .int (0 : Int32)), (0, .ref h0), (1, .int p1), (2, .int p2), (3, .int y3_38), (4, .int y4_38)]) hx hb dX7_near_50 hl (by decide) rfl (fun ls hl => ?_)
            refine lv_iconst (v := 0) hx hb dX7_near_52 (by decide) ?_
            refine lv_istore (lv' := [(6, .int (0 : Int32)), (5, .int (0 : Int32)), (0, .ref h0), (1, .int p1), (2, .int p2), (3, .int y3_38), (4, .int y4_38)]) hx hb dX7_near_53 hl (by decide) rfl (fun ls hl => ?_)
            obtain ⟨q7, hq7, hd⟩ := bnd_some hd
            have Kq7 : ∀ (H : Heap) (locs : List Loc) (ls : Array Slot), va_P (dC, dI) vwCl [(h0, .inr (7, [.ref h1, .ref h2, .int v_recorded, .ref h3, .ref h4, .ref h5, .int v_padLength, .ref h6, .int v_at, .int v_letter, .int v_hasUnder, .ref h7, .int v_numbersMany])), (h1, .inl (cI, 2628, .inl v_state))] H → va_D A [(h0, .inr (7, [.ref h1, .ref h2, .int v_recorded, .ref h3, .ref h4, .ref h5, .int v_padLength, .ref h6, .int v_at, .int v_letter, .int v_hasUnder, .ref h7, .int v_numbersMany])), (h1, .inl (cI, 2628, .inl v_state))] → va_S A s.heap H locs → lv_has ls 7 [(0, .ref h0), (1, .int p1), (2, .int p2), (3, .int y3_38), (4, .int y4_38), (5, .int q7)] → W p l e rmX7_near s m args below meth c H locs 0 0 Q (F0 m 123 ls []) := by
              intro H locs ls hP hD hS hl
              refine lv_iload hx hb dX7_near_123 (lv_at hl 5 rfl) ?_
              refine lv_iload_n hx hb dX7_near_125 rfl (lv_at hl 2 rfl) ?_
              refine lv_icmp_ne (tgt := 134) hx hb dX7_near_126 (by decide) (fun c8 => ?_) (fun c8 => ?_)
              · replace hd := ite_f c8 hd
                refine lv_iload_n hx hb dX7_near_134 rfl (lv_at hl 3 rfl) ?_
                refine lv_istore_n (lv' := [(3, .int y3_38), (0, .ref h0), (1, .int p1), (2, .int p2), (4, .int y4_38), (5, .int q7)]) hx hb dX7_near_135 rfl hl (by decide) rfl (fun ls hl => ?_)
                refine lv_iinc (v := (y4_38 + (1 : Int32))) (lv' := [(4, .int (y4_38 + (1 : Int32))), (3, .int y3_38), (0, .ref h0), (1, .int p1), (2, .int p2), (5, .int q7)]) hx hb dX7_near_136 hl (k := 4) rfl (by first | rfl | decide) (by decide) rfl (fun ls hl => ?_)
                refine lv_goto (tgt := 38) hx hb dX7_near_139 (by decide) ?_
                exact ih y3_38 (y4_38 + (1 : Int32)) hd _ _ _ hP hD hS (lv_sub hl [2, 3, 4, 1, 0] rfl)
              · replace hd := ite_t c8 hd
                refine lv_iload hx hb dX7_near_129 (lv_at hl 4 rfl) ?_
                refine lv_goto (tgt := 135) hx hb dX7_near_131 (by decide) ?_
                refine lv_istore_n (lv' := [(3, .int y4_38), (0, .ref h0), (1, .int p1), (2, .int p2), (4, .int y4_38), (5, .int q7)]) hx hb dX7_near_135 rfl hl (by decide) rfl (fun ls hl => ?_)
                refine lv_iinc (v := (y4_38 + (1 : Int32))) (lv' := [(4, .int (y4_38 + (1 : Int32))), (3, .int y4_38), (0, .ref h0), (1, .int p1), (2, .int p2), (5, .int q7)]) hx hb dX7_near_136 hl (k := 4) rfl (by first | rfl | decide) (by decide) rfl (fun ls hl => ?_)
                refine lv_goto (tgt := 38) hx hb dX7_near_139 (by decide) ?_
                exact ih y4_38 (y4_38 + (1 : Int32)) hd _ _ _ hP hD hS (lv_sub hl [2, 3, 4, 1, 0] rfl)
            clear hd
            have KL18 : ∀ (fu : Nat) (y5_55 : Int32) (y6_55 : Int32) (hd : den_X7_near_L55 p1 v_state y4_38 fu y5_55 y6_55 = some q7) (H : Heap) (locs : List Loc) (ls : Array Slot), va_P (dC, dI) vwCl [(h0, .inr (7, [.ref h1, .ref h2, .int v_recorded, .ref h3, .ref h4, .ref h5, .int v_padLength, .ref h6, .int v_at, .int v_letter, .int v_hasUnder, .ref h7, .int v_numbersMany])), (h1, .inl (cI, 2628, .inl v_state))] H → va_D A [(h0, .inr (7, [.ref h1, .ref h2, .int v_recorded, .ref h3, .ref h4, .ref h5, .int v_padLength, .ref h6, .int v_at, .int v_letter, .int v_hasUnder, .ref h7, .int v_numbersMany])), (h1, .inl (cI, 2628, .inl v_state))] → va_S A s.heap H locs → lv_has ls 7 [(0, .ref h0), (1, .int p1), (2, .int p2), (3, .int y3_38), (4, .int y4_38), (5, .int y5_55), (6, .int y6_55)] → W p l e rmX7_near s m args below meth c H locs 0 0 Q (F0 m 55 ls []) := by
              intro fu
              induction fu with
              | zero => intro y5_55 y6_55 hd; exact no_some hd
              | succ fu ih =>
                intro y5_55 y6_55 hd H locs ls hP hD hS hl
                rw [den_X7_near_L55] at hd
                refine lv_iload hx hb dX7_near_55 (lv_at hl 6 rfl) ?_
                refine lv_aload_n hx hb dX7_near_57 rfl (lv_at hl 0 rfl) ?_
                refine va_get (D := (dC, dI)) (ci := 7) (v := .ref h1) (C := RX7) (T := TX7) (N := 13) hx hb hts inX7_near_X7 hown hK hP 0 rfl rfl 0 (by decide) (hts _ kX7_near_1) (fun _ h9 => h9) rfl dX7_near_58 ?_
                refine lv_iconst (v := 3) hx hb dX7_near_61 (by decide) ?_
                refine x_iald (k := 3) hx hb hK hP 1 0 rfl rfl (inb_in (by decide)) rfl dX7_near_62 ?_
                refine lv_icmp_ge (tgt := 123) hx hb dX7_near_63 (by decide) (fun c9 => ?_) (fun c9 => ?_)
                · replace hd := ite_t c9 hd
                  cases hd
                  exact Kq7 _ _ _ hP hD hS (lv_sub hl [0, 1, 2, 3, 4, 5] rfl)
                · replace hd := ite_f c9 hd
                  refine lv_iload hx hb dX7_near_66 (lv_at hl 5 rfl) ?_
                  refine lv_aload_n hx hb dX7_near_68 rfl (lv_at hl 0 rfl) ?_
                  refine lv_iload hx hb dX7_near_69 (lv_at hl 6 rfl) ?_
                  refine lv_iload_n hx hb dX7_near_71 rfl (lv_at hl 1 rfl) ?_
                  obtain ⟨q10, hq10, hd⟩ := bnd_some hd
                  have hPc : va_P (dC, dI) vwCl [(h0, .inr (7, [.ref h1, .ref h2, .int v_recorded, .ref h3, .ref h4, .ref h5, .int v_padLength, .ref h6, .int v_at, .int v_letter, .int v_hasUnder, .ref h7, .int v_numbersMany])), (h1, .inl (cI, 2628, .inl v_state))] _ := hP.sub [0, 1] rfl
                  have hDc := hD.sub (ws' := [(h0, .inr (7, [.ref h1, .ref h2, .int v_recorded, .ref h3, .ref h4, .ref h5, .int v_padLength, .ref h6, .int v_at, .int v_letter, .int v_hasUnder, .ref h7, .int v_numbersMany])), (h1, .inl (cI, 2628, .inl v_state))]) [0, 1] (by decide) rfl
                  have hFc := va_free (wc := [(h0, .inr (7, [.ref h1, .ref h2, .int v_recorded, .ref h3, .ref h4, .ref h5, .int v_padLength, .ref h6, .int v_at, .int v_letter, .int v_hasUnder, .ref h7, .int v_numbersMany])), (h1, .inl (cI, 2628, .inl v_state))]) hD hS hA [0, 1] rfl
                  refine va_calli (va_runV (As := [.int y6_55, .int p1]) (rest := [.int y5_55]) ⟨hx, hb, hml, hown, hts⟩ (c_X7_farFrom l dC dI cI cC cT h0 h1 h2 h3 h4 h5 h6 h7 H.size v_state v_recorded v_padLength v_at v_letter v_hasUnder v_numbersMany y6_55 p1 q10 hq10) (cwV 2 hts gX7_near_X7_farFrom rfl rfl rfl hv_X7_farFrom ⟨Nat.le_of_ble_eq_true rfl, Nat.le_of_ble_eq_true rfl⟩) ⟨preB_fb, va_recv hK hPc (ci := 7) (q0 := 0) rfl rfl, fun U hU hW => preB_mk hU hW hPc hK hDc hN⟩ rfl rfl hl.1 rfl (lv_room (Nat.le_of_ble_eq_true rfl)) dX7_near_72 ⟨Nat.zero_le _, Nat.zero_le _⟩) hS (fun q _ h => hFc q h) hFc (fun r_ u_ t H locs ht hvm hw hB hz1 hk1 hS => ?_)
                  have hw : r_ = q10 := hw
                  have hw := hw.symm
                  subst hw
                  obtain ⟨hP, hD⟩ := x_join (ws' := [(h0, .inr (7, [.ref h1, .ref h2, .int v_recorded, .ref h3, .ref h4, .ref h5, .int v_padLength, .ref h6, .int v_at, .int v_letter, .int v_hasUnder, .ref h7, .int v_numbersMany])), (h1, .inl (cI, 2628, .inl v_state))]) hP hD [0, 1] [] rfl rfl (by decide) (by decide) hk1 hFc ht hB [0, 1] (by decide) rfl
                  clear hPc hDc hFc hk1 hB ht hz1 hvm
                  refine lv_aload_n hx hb dX7_near_75 rfl (lv_at hl 0 rfl) ?_
                  refine lv_iload hx hb dX7_near_76 (lv_at hl 4 rfl) ?_
                  refine lv_iload_n hx hb dX7_near_78 rfl (lv_at hl 1 rfl) ?_
                  obtain ⟨q11, hq11, hd⟩ := bnd_some hd
                  have hPc : va_P (dC, dI) vwCl [(h0, .inr (7, [.ref h1, .ref h2, .int v_recorded, .ref h3, .ref h4, .ref h5, .int v_padLength, .ref h6, .int v_at, .int v_letter, .int v_hasUnder, .ref h7, .int v_numbersMany])), (h1, .inl (cI, 2628, .inl v_state))] _ := hP.sub [0, 1] rfl
                  have hDc := hD.sub (ws' := [(h0, .inr (7, [.ref h1, .ref h2, .int v_recorded, .ref h3, .ref h4, .ref h5, .int v_padLength, .ref h6, .int v_at, .int v_letter, .int v_hasUnder, .ref h7, .int v_numbersMany])), (h1, .inl (cI, 2628, .inl v_state))]) [0, 1] (by decide) rfl
                  have hFc := va_free (wc := [(h0, .inr (7, [.ref h1, .ref h2, .int v_recorded, .ref h3, .ref h4, .ref h5, .int v_padLength, .ref h6, .int v_at, .int v_letter, .int v_hasUnder, .ref h7, .int v_numbersMany])), (h1, .inl (cI, 2628, .inl v_state))]) hD hS hA [0, 1] rfl
                  refine va_calli (va_runV (As := [.int y4_38, .int p1]) (rest := [.int q10, .int y5_55]) ⟨hx, hb, hml, hown, hts⟩ (c_X7_farFrom l dC dI cI cC cT h0 h1 h2 h3 h4 h5 h6 h7 H.size v_state v_recorded v_padLength v_at v_letter v_hasUnder v_numbersMany y4_38 p1 q11 hq11) (cwV 2 hts gX7_near_X7_farFrom rfl rfl rfl hv_X7_farFrom ⟨Nat.le_of_ble_eq_true rfl, Nat.le_of_ble_eq_true rfl⟩) ⟨preB_fb, va_recv hK hPc (ci := 7) (q0 := 0) rfl rfl, fun U hU hW => preB_mk hU hW hPc hK hDc hN⟩ rfl rfl hl.1 rfl (lv_room (Nat.le_of_ble_eq_true rfl)) dX7_near_79 ⟨Nat.zero_le _, Nat.zero_le _⟩) hS (fun q _ h => hFc q h) hFc (fun r_ u_ t H locs ht hvm hw hB hz1 hk1 hS => ?_)
                  have hw : r_ = q11 := hw
                  have hw := hw.symm
                  subst hw
                  obtain ⟨hP, hD⟩ := x_join (ws' := [(h0, .inr (7, [.ref h1, .ref h2, .int v_recorded, .ref h3, .ref h4, .ref h5, .int v_padLength, .ref h6, .int v_at, .int v_letter, .int v_hasUnder, .ref h7, .int v_numbersMany])), (h1, .inl (cI, 2628, .inl v_state))]) hP hD [0, 1] [] rfl rfl (by decide) (by decide) hk1 hFc ht hB [0, 1] (by decide) rfl
                  clear hPc hDc hFc hk1 hB ht hz1 hvm
                  obtain ⟨q12, hq12, hd⟩ := bnd_some hd
                  have Kq12 : ∀ (H : Heap) (locs : List Loc) (ls : Array Slot), va_P (dC, dI) vwCl [(h0, .inr (7, [.ref h1, .ref h2, .int v_recorded, .ref h3, .ref h4, .ref h5, .int v_padLength, .ref h6, .int v_at, .int v_letter, .int v_hasUnder, .ref h7, .int v_numbersMany])), (h1, .inl (cI, 2628, .inl v_state))] H → va_D A [(h0, .inr (7, [.ref h1, .ref h2, .int v_recorded, .ref h3, .ref h4, .ref h5, .int v_padLength, .ref h6, .int v_at, .int v_letter, .int v_hasUnder, .ref h7, .int v_numbersMany])), (h1, .inl (cI, 2628, .inl v_state))] → va_S A s.heap H locs → lv_has ls 7 [(0, .ref h0), (1, .int p1), (2, .int p2), (3, .int y3_38), (4, .int y4_38), (6, .int y6_55)] → W p l e rmX7_near s m args below meth c H locs 0 0 Q (F0 m 114 ls [.int q12, .int y5_55]) := by
                    intro H locs ls hP hD hS hl
                    refine lv_iadd hx hb dX7_near_114 ?_
                    refine lv_istore (lv' := [(5, .int (y5_55 + q12)), (0, .ref h0), (1, .int p1), (2, .int p2), (3, .int y3_38), (4, .int y4_38), (6, .int y6_55)]) hx hb dX7_near_115 hl (by decide) rfl (fun ls hl => ?_)
                    refine lv_iinc (v := (y6_55 + (1 : Int32))) (lv' := [(6, .int (y6_55 + (1 : Int32))), (5, .int (y5_55 + q12)), (0, .ref h0), (1, .int p1), (2, .int p2), (3, .int y3_38), (4, .int y4_38)]) hx hb dX7_near_117 hl (k := 6) rfl (by first | rfl | decide) (by decide) rfl (fun ls hl => ?_)
                    refine lv_goto (tgt := 55) hx hb dX7_near_120 (by decide) ?_
                    exact ih (y5_55 + q12) (y6_55 + (1 : Int32)) hd _ _ _ hP hD hS (lv_sub hl [2, 3, 4, 5, 6, 1, 0] rfl)
                  replace hd := hq12
                  clear hq12
                  refine lv_icmp_lt (tgt := 109) hx hb dX7_near_82 (by decide) (fun c13 => ?_) (fun c13 => ?_)
                  · replace hd := ite_t c13 hd
                    refine lv_iconst (v := 1) hx hb dX7_near_109 (by decide) ?_
                    refine lv_goto (tgt := 114) hx hb dX7_near_110 (by decide) ?_
                    cases hd
                    exact Kq12 _ _ _ hP hD hS (lv_sub hl [0, 1, 2, 3, 4, 6] rfl)
                  · replace hd := ite_f c13 hd
                    refine lv_aload_n hx hb dX7_near_85 rfl (lv_at hl 0 rfl) ?_
                    refine lv_iload hx hb dX7_near_86 (lv_at hl 6 rfl) ?_
                    refine lv_iload_n hx hb dX7_near_88 rfl (lv_at hl 1 rfl) ?_
                    obtain ⟨q14, hq14, hd⟩ := bnd_some hd
                    have hPc : va_P (dC, dI) vwCl [(h0, .inr (7, [.ref h1, .ref h2, .int v_recorded, .ref h3, .ref h4, .ref h5, .int v_padLength, .ref h6, .int v_at, .int v_letter, .int v_hasUnder, .ref h7, .int v_numbersMany])), (h1, .inl (cI, 2628, .inl v_state))] _ := hP.sub [0, 1] rfl
                    have hDc := hD.sub (ws' := [(h0, .inr (7, [.ref h1, .ref h2, .int v_recorded, .ref h3, .ref h4, .ref h5, .int v_padLength, .ref h6, .int v_at, .int v_letter, .int v_hasUnder, .ref h7, .int v_numbersMany])), (h1, .inl (cI, 2628, .inl v_state))]) [0, 1] (by decide) rfl
                    have hFc := va_free (wc := [(h0, .inr (7, [.ref h1, .ref h2, .int v_recorded, .ref h3, .ref h4, .ref h5, .int v_padLength, .ref h6, .int v_at, .int v_letter, .int v_hasUnder, .ref h7, .int v_numbersMany])), (h1, .inl (cI, 2628, .inl v_state))]) hD hS hA [0, 1] rfl
                    refine va_calli (va_runV (As := [.int y6_55, .int p1]) (rest := [.int y5_55]) ⟨hx, hb, hml, hown, hts⟩ (c_X7_farFrom l dC dI cI cC cT h0 h1 h2 h3 h4 h5 h6 h7 H.size v_state v_recorded v_padLength v_at v_letter v_hasUnder v_numbersMany y6_55 p1 q14 hq14) (cwV 2 hts gX7_near_X7_farFrom rfl rfl rfl hv_X7_farFrom ⟨Nat.le_of_ble_eq_true rfl, Nat.le_of_ble_eq_true rfl⟩) ⟨preB_fb, va_recv hK hPc (ci := 7) (q0 := 0) rfl rfl, fun U hU hW => preB_mk hU hW hPc hK hDc hN⟩ rfl rfl hl.1 rfl (lv_room (Nat.le_of_ble_eq_true rfl)) dX7_near_89 ⟨Nat.zero_le _, Nat.zero_le _⟩) hS (fun q _ h => hFc q h) hFc (fun r_ u_ t H locs ht hvm hw hB hz1 hk1 hS => ?_)
                    have hw : r_ = q14 := hw
                    have hw := hw.symm
                    subst hw
                    obtain ⟨hP, hD⟩ := x_join (ws' := [(h0, .inr (7, [.ref h1, .ref h2, .int v_recorded, .ref h3, .ref h4, .ref h5, .int v_padLength, .ref h6, .int v_at, .int v_letter, .int v_hasUnder, .ref h7, .int v_numbersMany])), (h1, .inl (cI, 2628, .inl v_state))]) hP hD [0, 1] [] rfl rfl (by decide) (by decide) hk1 hFc ht hB [0, 1] (by decide) rfl
                    clear hPc hDc hFc hk1 hB ht hz1 hvm
                    refine lv_aload_n hx hb dX7_near_92 rfl (lv_at hl 0 rfl) ?_
                    refine lv_iload hx hb dX7_near_93 (lv_at hl 4 rfl) ?_
                    refine lv_iload_n hx hb dX7_near_95 rfl (lv_at hl 1 rfl) ?_
                    obtain ⟨q15, hq15, hd⟩ := bnd_some hd
                    have hPc : va_P (dC, dI) vwCl [(h0, .inr (7, [.ref h1, .ref h2, .int v_recorded, .ref h3, .ref h4, .ref h5, .int v_padLength, .ref h6, .int v_at, .int v_letter, .int v_hasUnder, .ref h7, .int v_numbersMany])), (h1, .inl (cI, 2628, .inl v_state))] _ := hP.sub [0, 1] rfl
                    have hDc := hD.sub (ws' := [(h0, .inr (7, [.ref h1, .ref h2, .int v_recorded, .ref h3, .ref h4, .ref h5, .int v_padLength, .ref h6, .int v_at, .int v_letter, .int v_hasUnder, .ref h7, .int v_numbersMany])), (h1, .inl (cI, 2628, .inl v_state))]) [0, 1] (by decide) rfl
                    have hFc := va_free (wc := [(h0, .inr (7, [.ref h1, .ref h2, .int v_recorded, .ref h3, .ref h4, .ref h5, .int v_padLength, .ref h6, .int v_at, .int v_letter, .int v_hasUnder, .ref h7, .int v_numbersMany])), (h1, .inl (cI, 2628, .inl v_state))]) hD hS hA [0, 1] rfl
                    refine va_calli (va_runV (As := [.int y4_38, .int p1]) (rest := [.int q14, .int y5_55]) ⟨hx, hb, hml, hown, hts⟩ (c_X7_farFrom l dC dI cI cC cT h0 h1 h2 h3 h4 h5 h6 h7 H.size v_state v_recorded v_padLength v_at v_letter v_hasUnder v_numbersMany y4_38 p1 q15 hq15) (cwV 2 hts gX7_near_X7_farFrom rfl rfl rfl hv_X7_farFrom ⟨Nat.le_of_ble_eq_true rfl, Nat.le_of_ble_eq_true rfl⟩) ⟨preB_fb, va_recv hK hPc (ci := 7) (q0 := 0) rfl rfl, fun U hU hW => preB_mk hU hW hPc hK hDc hN⟩ rfl rfl hl.1 rfl (lv_room (Nat.le_of_ble_eq_true rfl)) dX7_near_96 ⟨Nat.zero_le _, Nat.zero_le _⟩) hS (fun q _ h => hFc q h) hFc (fun r_ u_ t H locs ht hvm hw hB hz1 hk1 hS => ?_)
                    have hw : r_ = q15 := hw
                    have hw := hw.symm
                    subst hw
                    obtain ⟨hP, hD⟩ := x_join (ws' := [(h0, .inr (7, [.ref h1, .ref h2, .int v_recorded, .ref h3, .ref h4, .ref h5, .int v_padLength, .ref h6, .int v_at, .int v_letter, .int v_hasUnder, .ref h7, .int v_numbersMany])), (h1, .inl (cI, 2628, .inl v_state))]) hP hD [0, 1] [] rfl rfl (by decide) (by decide) hk1 hFc ht hB [0, 1] (by decide) rfl
                    clear hPc hDc hFc hk1 hB ht hz1 hvm
                    refine lv_icmp_ne (tgt := 113) hx hb dX7_near_99 (by decide) (fun c16 => ?_) (fun c16 => ?_)
                    · replace hd := ite_f c16 hd
                      refine lv_iconst (v := 0) hx hb dX7_near_113 (by decide) ?_
                      cases hd
                      exact Kq12 _ _ _ hP hD hS (lv_sub hl [0, 1, 2, 3, 4, 6] rfl)
                    · replace hd := ite_t c16 hd
                      refine lv_iload hx hb dX7_near_102 (lv_at hl 6 rfl) ?_
                      refine lv_iload hx hb dX7_near_104 (lv_at hl 4 rfl) ?_
                      refine lv_icmp_ge (tgt := 113) hx hb dX7_near_106 (by decide) (fun c17 => ?_) (fun c17 => ?_)
                      · replace hd := ite_t c17 hd
                        refine lv_iconst (v := 0) hx hb dX7_near_113 (by decide) ?_
                        cases hd
                        exact Kq12 _ _ _ hP hD hS (lv_sub hl [0, 1, 2, 3, 4, 6] rfl)
                      · replace hd := ite_f c17 hd
                        refine lv_iconst (v := 1) hx hb dX7_near_109 (by decide) ?_
                        refine lv_goto (tgt := 114) hx hb dX7_near_110 (by decide) ?_
                        cases hd
                        exact Kq12 _ _ _ hP hD hS (lv_sub hl [0, 1, 2, 3, 4, 6] rfl)
            exact KL18 FU (0 : Int32) (0 : Int32) hq7 _ _ _ hP hD hS (lv_sub hl [2, 3, 4, 5, 6, 1, 0] rfl)
      exact KL19 FU (-6 : Int32) (0 : Int32) hq5 _ _ _ hP hD hS (lv_sub hl [2, 3, 4, 1, 0] rfl)
    · replace hd := ite_t c4 hd
      refine lv_bipush (v := -2) hx hb dX7_near_29 (by decide) ?_
      cases hd
      exact hend (by rfl) hP hD hS dX7_near_31
  · replace hd := ite_t c2 hd
    refine lv_iconst (v := -1) hx hb dX7_near_16 (by decide) ?_
    cases hd
    exact hend (by rfl) hP hD hS dX7_near_17
def rmX7_mostLeast : Room := { frames := 8, cells := 0, slots := 0, locals := 189 }
theorem kX7_mostLeast_1 : (Cond.fieldLink RX7 7 "CassetteTonesModel" "state" "[I") ∈ wsX7_mostLeast := List.mem_of_getElem? (i := 1) (by decide +kernel)
theorem inX7_mostLeast_X7 : ∀ w ∈ wsX70, w ∈ wsX7_mostLeast := by decide +kernel
theorem hp_X7_mostLeast : yX7_mostLeast.cls ≠ "java/lang/invoke/MethodHandle" ∧ yX7_mostLeast.cls ≠ "java/lang/invoke/VarHandle" ∧ (parseMethodDescriptor yX7_mostLeast.desc).map (fun d => d.parameters.length) = some 1 := by decide +kernel
theorem hv_X7_mostLeast : yX7_mostLeast.cls = RX7 ∧ yX7_mostLeast.cls ≠ "java/lang/invoke/MethodHandle" ∧ yX7_mostLeast.cls ≠ "java/lang/invoke/VarHandle" ∧ (parseMethodDescriptor yX7_mostLeast.desc).map (fun d => d.parameters.length) = some 1 := by decide +kernel
set_option maxHeartbeats 4000000 in
set_option maxRecDepth 100000 in
theorem c_X7_mostLeast (l : Launch) (dC : Nat → ClassId) (dI : Nat → Nat → Nat) (cI cC cT : ClassId) (h0 h1 h2 h3 h4 h5 h6 h7 : Nat) (sz : Nat) (v_state : (Nat → Int32)) (v_recorded : Int32) (v_padLength : Int32) (v_found : (Nat → Int32)) (v_at : Int32) (v_letter : Int32) (v_hasUnder : Int32) (v_numbersMany : Int32) (p1 : Int32) (r : (Int32 × (Nat → Int32) × (Nat → Int32))) (hd : den_X7_mostLeast v_state v_found p1 = some r) : Met l yX7_mostLeast wsX7_mostLeast rmX7_mostLeast (va_Pc [.ref h0, .int p1] (preB sz (dC, dI) [(h0, .inr (7, [.ref h1, .ref h2, .int v_recorded, .ref h3, .ref h4, .ref h5, .int v_padLength, .ref h6, .int v_at, .int v_letter, .int v_hasUnder, .ref h7, .int v_numbersMany])), (h1, .inl (cI, 2628, .inl v_state)), (h6, .inl (cI, 7, .inl v_found))] [(cI, .int), (cC, .char), (cT, .object "CassetteTones$Tape")])) (va_Qi (S := Unit) (fun v _ => v = r.1) (fun _ t => posB (dC, dI) [(h0, .inr (7, [.ref h1, .ref h2, .int v_recorded, .ref h3, .ref h4, .ref h5, .int v_padLength, .ref h6, .int v_at, .int v_letter, .int v_hasUnder, .ref h7, .int v_numbersMany])), (h1, .inl (cI, 2628, .inl r.2.1)), (h6, .inl (cI, 7, .inl r.2.2))] [(cI, .int), (cC, .char), (cT, .object "CassetteTones$Tape")] (va_A [(h0, .inr (7, [.ref h1, .ref h2, .int v_recorded, .ref h3, .ref h4, .ref h5, .int v_padLength, .ref h6, .int v_at, .int v_letter, .int v_hasUnder, .ref h7, .int v_numbersMany])), (h1, .inl (cI, 2628, .inl v_state)), (h6, .inl (cI, 7, .inl v_found))] sz) t) (va_A [(h0, .inr (7, [.ref h1, .ref h2, .int v_recorded, .ref h3, .ref h4, .ref h5, .int v_padLength, .ref h6, .int v_at, .int v_letter, .int v_hasUnder, .ref h7, .int v_numbersMany])), (h1, .inl (cI, 2628, .inl v_state)), (h6, .inl (cI, 7, .inl v_found))] sz)) 0 0 (va_A [(h0, .inr (7, [.ref h1, .ref h2, .int v_recorded, .ref h3, .ref h4, .ref h5, .int v_padLength, .ref h6, .int v_at, .int v_letter, .int v_hasUnder, .ref h7, .int v_numbersMany])), (h1, .inl (cI, 2628, .inl v_state)), (h6, .inl (cI, 7, .inl v_found))] sz) := by
  refine x_met_i (by decide) rfl (Nat.le_of_ble_eq_true rfl) ?_
  intro p e s m args below meth c A Q H locs ls hx hb hml hown hts hK hN hA hP hD hS hl hend
  have hown : s.vm.findClass RX7 = some m.cls := hown
  have hl : lv_has ls 5 [(0, .ref h0), (1, .int p1)] := hl
  unfold den_X7_mostLeast at hd
  refine lv_aload_n hx hb dX7_mostLeast_0 rfl (lv_at hl 0 rfl) ?_
  refine lv_iload_n hx hb dX7_mostLeast_1 rfl (lv_at hl 1 rfl) ?_
  obtain ⟨q1, hq1, hd⟩ := bnd_some hd
  have hPc : va_P (dC, dI) vwCl [(h0, .inr (7, [.ref h1, .ref h2, .int v_recorded, .ref h3, .ref h4, .ref h5, .int v_padLength, .ref h6, .int v_at, .int v_letter, .int v_hasUnder, .ref h7, .int v_numbersMany])), (h1, .inl (cI, 2628, .inl v_state))] _ := hP.sub [0, 1] rfl
  have hDc := hD.sub (ws' := [(h0, .inr (7, [.ref h1, .ref h2, .int v_recorded, .ref h3, .ref h4, .ref h5, .int v_padLength, .ref h6, .int v_at, .int v_letter, .int v_hasUnder, .ref h7, .int v_numbersMany])), (h1, .inl (cI, 2628, .inl v_state))]) [0, 1] (by decide) rfl
  have hFc := va_free (wc := [(h0, .inr (7, [.ref h1, .ref h2, .int v_recorded, .ref h3, .ref h4, .ref h5, .int v_padLength, .ref h6, .int v_at, .int v_letter, .int v_hasUnder, .ref h7, .int v_numbersMany])), (h1, .inl (cI, 2628, .inl v_state))]) hD hS hA [0, 1] rfl
  refine va_calli (va_runV (As := [.int p1]) (rest := []) ⟨hx, hb, hml, hown, hts⟩ (c_X7_isBlock l dC dI cI cC cT h0 h1 h2 h3 h4 h5 h6 h7 H.size v_state v_recorded v_padLength v_at v_letter v_hasUnder v_numbersMany p1 q1 hq1) (cwV 1 hts gX7_mostLeast_X7_isBlock rfl rfl rfl hv_X7_isBlock ⟨Nat.le_of_ble_eq_true rfl, Nat.le_of_ble_eq_true rfl⟩) ⟨preB_fb, va_recv hK hPc (ci := 7) (q0 := 0) rfl rfl, fun U hU hW => preB_mk hU hW hPc hK hDc hN⟩ rfl rfl hl.1 rfl (lv_room (Nat.le_of_ble_eq_true rfl)) dX7_mostLeast_2 ⟨Nat.zero_le _, Nat.zero_le _⟩) hS (fun q _ h => hFc q h) hFc (fun r_ u_ t H locs ht hvm hw hB hz1 hk1 hS => ?_)
  have hw : r_ = q1 := hw
  have hw := hw.symm
  subst hw
  obtain ⟨hP, hD⟩ := x_join (ws' := [(h0, .inr (7, [.ref h1, .ref h2, .int v_recorded, .ref h3, .ref h4, .ref h5, .int v_padLength, .ref h6, .int v_at, .int v_letter, .int v_hasUnder, .ref h7, .int v_numbersMany])), (h1, .inl (cI, 2628, .inl v_state)), (h6, .inl (cI, 7, .inl v_found))]) hP hD [0, 1] [2] rfl rfl (by decide) (by decide) hk1 hFc ht hB [1, 2, 0] (by decide) rfl
  clear hPc hDc hFc hk1 hB ht hz1 hvm
  refine lv_if_ne (tgt := 10) hx hb dX7_mostLeast_5 (by decide) (fun c2 => ?_) (fun c2 => ?_)
  · replace hd := ite_f c2 hd
    refine lv_aload_n hx hb dX7_mostLeast_10 rfl (lv_at hl 0 rfl) ?_
    refine va_get (D := (dC, dI)) (ci := 7) (v := .ref h1) (C := RX7) (T := TX7) (N := 13) hx hb hts inX7_mostLeast_X7 hown hK hP 0 rfl rfl 0 (by decide) (hts _ kX7_mostLeast_1) (fun _ h9 => h9) rfl dX7_mostLeast_11 ?_
    refine lv_iconst (v := 1) hx hb dX7_mostLeast_14 (by decide) ?_
    refine x_iald (k := 1) hx hb hK hP 1 0 rfl rfl (inb_in (by decide)) rfl dX7_mostLeast_15 ?_
    refine lv_istore_n (lv' := [(2, .int (v_state 1)), (0, .ref h0), (1, .int p1)]) hx hb dX7_mostLeast_16 rfl hl (by decide) rfl (fun ls hl => ?_)
    refine lv_bipush (v := -6) hx hb dX7_mostLeast_17 (by decide) ?_
    refine lv_istore_n (lv' := [(3, .int (-6 : Int32)), (2, .int (v_state 1)), (0, .ref h0), (1, .int p1)]) hx hb dX7_mostLeast_19 rfl hl (by decide) rfl (fun ls hl => ?_)
    refine lv_bipush (v := 99) hx hb dX7_mostLeast_20 (by decide) ?_
    refine lv_istore (lv' := [(4, .int (99 : Int32)), (3, .int (-6 : Int32)), (2, .int (v_state 1)), (0, .ref h0), (1, .int p1)]) hx hb dX7_mostLeast_22 hl (by decide) rfl (fun ls hl => ?_)
    obtain ⟨q3, hq3, hd⟩ := bnd_some hd
    have Kq3 : ∀ (H : Heap) (locs : List Loc) (ls : Array Slot), va_P (dC, dI) vwCl [(h0, .inr (7, [.ref h1, .ref h2, .int v_recorded, .ref h3, .ref h4, .ref h5, .int v_padLength, .ref h6, .int v_at, .int v_letter, .int v_hasUnder, .ref h7, .int v_numbersMany])), (h1, .inl (cI, 2628, .inl q3.2.1)), (h6, .inl (cI, 7, .inl q3.2.2))] H → va_D A [(h0, .inr (7, [.ref h1, .ref h2, .int v_recorded, .ref h3, .ref h4, .ref h5, .int v_padLength, .ref h6, .int v_at, .int v_letter, .int v_hasUnder, .ref h7, .int v_numbersMany])), (h1, .inl (cI, 2628, .inl q3.2.1)), (h6, .inl (cI, 7, .inl q3.2.2))] → va_S A s.heap H locs → lv_has ls 5 [(0, .ref h0), (2, .int (v_state 1)), (3, .int q3.1)] → W p l e rmX7_mostLeast s m args below meth c H locs 0 0 Q (F0 m 67 ls []) := by
      intro H locs ls hP hD hS hl
      refine lv_aload_n hx hb dX7_mostLeast_67 rfl (lv_at hl 0 rfl) ?_
      refine va_get (D := (dC, dI)) (ci := 7) (v := .ref h1) (C := RX7) (T := TX7) (N := 13) hx hb hts inX7_mostLeast_X7 hown hK hP 0 rfl rfl 0 (by decide) (hts _ kX7_mostLeast_1) (fun _ h9 => h9) rfl dX7_mostLeast_68 ?_
      refine lv_iconst (v := 1) hx hb dX7_mostLeast_71 (by decide) ?_
      refine lv_iload_n hx hb dX7_mostLeast_72 rfl (lv_at hl 1 rfl) ?_
      refine x_iast (k := 1) hx hb hK hP hD hS 1 0 rfl rfl (inb_in (by decide)) rfl dX7_mostLeast_73 (fun H locs hP hD hS => ?_)
      have hP : va_P (dC, dI) vwCl [(h0, .inr (7, [.ref h1, .ref h2, .int v_recorded, .ref h3, .ref h4, .ref h5, .int v_padLength, .ref h6, .int v_at, .int v_letter, .int v_hasUnder, .ref h7, .int v_numbersMany])), (h1, .inl (cI, 2628, .inl (upd q3.2.1 1 (v_state 1)))), (h6, .inl (cI, 7, .inl q3.2.2))] H := hP
      have hD : va_D A [(h0, .inr (7, [.ref h1, .ref h2, .int v_recorded, .ref h3, .ref h4, .ref h5, .int v_padLength, .ref h6, .int v_at, .int v_letter, .int v_hasUnder, .ref h7, .int v_numbersMany])), (h1, .inl (cI, 2628, .inl (upd q3.2.1 1 (v_state 1)))), (h6, .inl (cI, 7, .inl q3.2.2))] := hD
      refine lv_iload_n hx hb dX7_mostLeast_74 rfl (lv_at hl 2 rfl) ?_
      cases hd
      exact hend (by rfl) hP hD hS dX7_mostLeast_75
    clear hd
    have KL8 : ∀ (fu : Nat) (y3_24 : Int32) (y4_24 : Int32) (v_state_24 : (Nat → Int32)) (v_found_24 : (Nat → Int32)) (hd : den_X7_mostLeast_L24 p1 fu y3_24 y4_24 v_state_24 v_found_24 = some q3) (H : Heap) (locs : List Loc) (ls : Array Slot), va_P (dC, dI) vwCl [(h0, .inr (7, [.ref h1, .ref h2, .int v_recorded, .ref h3, .ref h4, .ref h5, .int v_padLength, .ref h6, .int v_at, .int v_letter, .int v_hasUnder, .ref h7, .int v_numbersMany])), (h1, .inl (cI, 2628, .inl v_state_24)), (h6, .inl (cI, 7, .inl v_found_24))] H → va_D A [(h0, .inr (7, [.ref h1, .ref h2, .int v_recorded, .ref h3, .ref h4, .ref h5, .int v_padLength, .ref h6, .int v_at, .int v_letter, .int v_hasUnder, .ref h7, .int v_numbersMany])), (h1, .inl (cI, 2628, .inl v_state_24)), (h6, .inl (cI, 7, .inl v_found_24))] → va_S A s.heap H locs → lv_has ls 5 [(0, .ref h0), (1, .int p1), (2, .int (v_state 1)), (3, .int y3_24), (4, .int y4_24)] → W p l e rmX7_mostLeast s m args below meth c H locs 0 0 Q (F0 m 24 ls []) := by
      intro fu
      induction fu with
      | zero => intro y3_24 y4_24 v_state_24 v_found_24 hd; exact no_some hd
      | succ fu ih =>
        intro y3_24 y4_24 v_state_24 v_found_24 hd H locs ls hP hD hS hl
        rw [den_X7_mostLeast_L24] at hd
        refine lv_iload hx hb dX7_mostLeast_24 (lv_at hl 4 rfl) ?_
        refine lv_if_lt (tgt := 67) hx hb dX7_mostLeast_26 (by decide) (fun c4 => ?_) (fun c4 => ?_)
        · replace hd := ite_t c4 hd
          cases hd
          exact Kq3 _ _ _ hP hD hS (lv_sub hl [0, 2, 3] rfl)
        · replace hd := ite_f c4 hd
          refine lv_iload_n hx hb dX7_mostLeast_29 rfl (lv_at hl 3 rfl) ?_
          refine lv_bipush (v := -6) hx hb dX7_mostLeast_30 (by decide) ?_
          refine lv_icmp_ne (tgt := 67) hx hb dX7_mostLeast_32 (by decide) (fun c5 => ?_) (fun c5 => ?_)
          · replace hd := ite_f c5 hd
            cases hd
            exact Kq3 _ _ _ hP hD hS (lv_sub hl [0, 2, 3] rfl)
          · replace hd := ite_t c5 hd
            refine lv_aload_n hx hb dX7_mostLeast_35 rfl (lv_at hl 0 rfl) ?_
            refine va_get (D := (dC, dI)) (ci := 7) (v := .ref h1) (C := RX7) (T := TX7) (N := 13) hx hb hts inX7_mostLeast_X7 hown hK hP 0 rfl rfl 0 (by decide) (hts _ kX7_mostLeast_1) (fun _ h9 => h9) rfl dX7_mostLeast_36 ?_
            refine lv_iconst (v := 1) hx hb dX7_mostLeast_39 (by decide) ?_
            refine lv_iload hx hb dX7_mostLeast_40 (lv_at hl 4 rfl) ?_
            refine x_iast (k := 1) hx hb hK hP hD hS 1 0 rfl rfl (inb_in (by decide)) rfl dX7_mostLeast_42 (fun H locs hP hD hS => ?_)
            have hP : va_P (dC, dI) vwCl [(h0, .inr (7, [.ref h1, .ref h2, .int v_recorded, .ref h3, .ref h4, .ref h5, .int v_padLength, .ref h6, .int v_at, .int v_letter, .int v_hasUnder, .ref h7, .int v_numbersMany])), (h1, .inl (cI, 2628, .inl (upd v_state_24 1 y4_24))), (h6, .inl (cI, 7, .inl v_found_24))] H := hP
            have hD : va_D A [(h0, .inr (7, [.ref h1, .ref h2, .int v_recorded, .ref h3, .ref h4, .ref h5, .int v_padLength, .ref h6, .int v_at, .int v_letter, .int v_hasUnder, .ref h7, .int v_numbersMany])), (h1, .inl (cI, 2628, .inl (upd v_state_24 1 y4_24))), (h6, .inl (cI, 7, .inl v_found_24))] := hD
            refine lv_aload_n hx hb dX7_mostLeast_43 rfl (lv_at hl 0 rfl) ?_
            refine lv_iload_n hx hb dX7_mostLeast_44 rfl (lv_at hl 1 rfl) ?_
            obtain ⟨q6, hq6, hd⟩ := bnd_some hd
            have hPc : va_P (dC, dI) vwCl [(h0, .inr (7, [.ref h1, .ref h2, .int v_recorded, .ref h3, .ref h4, .ref h5, .int v_padLength, .ref h6, .int v_at, .int v_letter, .int v_hasUnder, .ref h7, .int v_numbersMany])), (h1, .inl (cI, 2628, .inl (upd v_state_24 1 y4_24))), (h6, .inl (cI, 7, .inl v_found_24))] _ := hP.sub [0, 1, 2] rfl
            have hDc := hD.sub (ws' := [(h0, .inr (7, [.ref h1, .ref h2, .int v_recorded, .ref h3, .ref h4, .ref h5, .int v_padLength, .ref h6, .int v_at, .int v_letter, .int v_hasUnder, .ref h7, .int v_numbersMany])), (h1, .inl (cI, 2628, .inl (upd v_state_24 1 y4_24))), (h6, .inl (cI, 7, .inl v_found_24))]) [0, 1, 2] (by decide) rfl
            have hFc := va_free (wc := [(h0, .inr (7, [.ref h1, .ref h2, .int v_recorded, .ref h3, .ref h4, .ref h5, .int v_padLength, .ref h6, .int v_at, .int v_letter, .int v_hasUnder, .ref h7, .int v_numbersMany])), (h1, .inl (cI, 2628, .inl (upd v_state_24 1 y4_24))), (h6, .inl (cI, 7, .inl v_found_24))]) hD hS hA [0, 1, 2] rfl
            refine va_calli (va_runV (As := [.int p1]) (rest := []) ⟨hx, hb, hml, hown, hts⟩ (c_X7_loadedBy l dC dI cI cC cT h0 h1 h2 h3 h4 h5 h6 h7 H.size (upd v_state_24 1 y4_24) v_recorded v_padLength v_found_24 v_at v_letter v_hasUnder v_numbersMany p1 q6 hq6) (cwV 1 hts gX7_mostLeast_X7_loadedBy rfl rfl rfl hv_X7_loadedBy ⟨Nat.le_of_ble_eq_true rfl, Nat.le_of_ble_eq_true rfl⟩) ⟨preB_fb, va_recv hK hPc (ci := 7) (q0 := 0) rfl rfl, fun U hU hW => preB_mk hU hW hPc hK hDc hN⟩ rfl rfl hl.1 rfl (lv_room (Nat.le_of_ble_eq_true rfl)) dX7_mostLeast_45 ⟨Nat.zero_le _, Nat.zero_le _⟩) hS (fun q _ h => hFc q h) hFc (fun r_ u_ t H locs ht hvm hw hB hz1 hk1 hS => ?_)
            have hw : r_ = q6.1 := hw
            have hw := hw.symm
            subst hw
            obtain ⟨hP, hD⟩ := x_join (ws' := [(h0, .inr (7, [.ref h1, .ref h2, .int v_recorded, .ref h3, .ref h4, .ref h5, .int v_padLength, .ref h6, .int v_at, .int v_letter, .int v_hasUnder, .ref h7, .int v_numbersMany])), (h1, .inl (cI, 2628, .inl (upd v_state_24 1 y4_24))), (h6, .inl (cI, 7, .inl q6.2))]) hP hD [0, 1, 2] [] rfl rfl (by decide) (by decide) hk1 hFc ht hB [0, 1, 2] (by decide) rfl
            clear hPc hDc hFc hk1 hB ht hz1 hvm
            refine lv_bipush (v := -6) hx hb dX7_mostLeast_48 (by decide) ?_
            refine lv_icmp_ne (tgt := 58) hx hb dX7_mostLeast_50 (by decide) (fun c7 => ?_) (fun c7 => ?_)
            · replace hd := ite_f c7 hd
              refine lv_iload hx hb dX7_mostLeast_58 (lv_at hl 4 rfl) ?_
              refine lv_istore_n (lv' := [(3, .int y4_24), (0, .ref h0), (1, .int p1), (2, .int (v_state 1)), (4, .int y4_24)]) hx hb dX7_mostLeast_60 rfl hl (by decide) rfl (fun ls hl => ?_)
              refine lv_iinc (v := (y4_24 + (-1 : Int32))) (lv' := [(4, .int (y4_24 + (-1 : Int32))), (3, .int y4_24), (0, .ref h0), (1, .int p1), (2, .int (v_state 1))]) hx hb dX7_mostLeast_61 hl (k := 4) rfl (by first | rfl | decide) (by decide) rfl (fun ls hl => ?_)
              refine lv_goto (tgt := 24) hx hb dX7_mostLeast_64 (by decide) ?_
              exact ih y4_24 (y4_24 + (-1 : Int32)) (upd v_state_24 1 y4_24) q6.2 hd _ _ _ hP hD hS (lv_sub hl [2, 3, 4, 1, 0] rfl)
            · replace hd := ite_t c7 hd
              refine lv_bipush (v := -6) hx hb dX7_mostLeast_53 (by decide) ?_
              refine lv_goto (tgt := 60) hx hb dX7_mostLeast_55 (by decide) ?_
              refine lv_istore_n (lv' := [(3, .int (-6 : Int32)), (0, .ref h0), (1, .int p1), (2, .int (v_state 1)), (4, .int y4_24)]) hx hb dX7_mostLeast_60 rfl hl (by decide) rfl (fun ls hl => ?_)
              refine lv_iinc (v := (y4_24 + (-1 : Int32))) (lv' := [(4, .int (y4_24 + (-1 : Int32))), (3, .int (-6 : Int32)), (0, .ref h0), (1, .int p1), (2, .int (v_state 1))]) hx hb dX7_mostLeast_61 hl (k := 4) rfl (by first | rfl | decide) (by decide) rfl (fun ls hl => ?_)
              refine lv_goto (tgt := 24) hx hb dX7_mostLeast_64 (by decide) ?_
              exact ih (-6 : Int32) (y4_24 + (-1 : Int32)) (upd v_state_24 1 y4_24) q6.2 hd _ _ _ hP hD hS (lv_sub hl [2, 3, 4, 1, 0] rfl)
    exact KL8 FU (-6 : Int32) (99 : Int32) v_state v_found hq3 _ _ _ hP hD hS (lv_sub hl [3, 4, 2, 1, 0] rfl)
  · replace hd := ite_t c2 hd
    refine lv_iconst (v := -1) hx hb dX7_mostLeast_8 (by decide) ?_
    cases hd
    exact hend (by rfl) hP hD hS dX7_mostLeast_9
def rmX7_weak : Room := { frames := 7, cells := 0, slots := 0, locals := 167 }
theorem hp_X7_weak : yX7_weak.cls ≠ "java/lang/invoke/MethodHandle" ∧ yX7_weak.cls ≠ "java/lang/invoke/VarHandle" ∧ (parseMethodDescriptor yX7_weak.desc).map (fun d => d.parameters.length) = some 2 := by decide +kernel
theorem hv_X7_weak : yX7_weak.cls = RX7 ∧ yX7_weak.cls ≠ "java/lang/invoke/MethodHandle" ∧ yX7_weak.cls ≠ "java/lang/invoke/VarHandle" ∧ (parseMethodDescriptor yX7_weak.desc).map (fun d => d.parameters.length) = some 2 := by decide +kernel
set_option maxHeartbeats 4000000 in
set_option maxRecDepth 100000 in
theorem c_X7_weak (l : Launch) (dC : Nat → ClassId) (dI : Nat → Nat → Nat) (cI cC cT : ClassId) (h0 h1 h2 h3 h4 h5 h6 h7 : Nat) (sz : Nat) (v_state : (Nat → Int32)) (v_recorded : Int32) (v_padLength : Int32) (v_at : Int32) (v_letter : Int32) (v_hasUnder : Int32) (v_numbersMany : Int32) (p1 : Int32) (p2 : Int32) (r : (Int32 × (Nat → Int32))) (hd : den_X7_weak v_state p1 p2 = some r) : Met l yX7_weak wsX7_weak rmX7_weak (va_Pc [.ref h0, .int p1, .int p2] (preB sz (dC, dI) [(h0, .inr (7, [.ref h1, .ref h2, .int v_recorded, .ref h3, .ref h4, .ref h5, .int v_padLength, .ref h6, .int v_at, .int v_letter, .int v_hasUnder, .ref h7, .int v_numbersMany])), (h1, .inl (cI, 2628, .inl v_state))] [(cI, .int), (cC, .char), (cT, .object "CassetteTones$Tape")])) (va_Qi (S := Unit) (fun v _ => v = r.1) (fun _ t => posB (dC, dI) [(h0, .inr (7, [.ref h1, .ref h2, .int v_recorded, .ref h3, .ref h4, .ref h5, .int v_padLength, .ref h6, .int v_at, .int v_letter, .int v_hasUnder, .ref h7, .int v_numbersMany])), (h1, .inl (cI, 2628, .inl r.2))] [(cI, .int), (cC, .char), (cT, .object "CassetteTones$Tape")] (va_A [(h0, .inr (7, [.ref h1, .ref h2, .int v_recorded, .ref h3, .ref h4, .ref h5, .int v_padLength, .ref h6, .int v_at, .int v_letter, .int v_hasUnder, .ref h7, .int v_numbersMany])), (h1, .inl (cI, 2628, .inl v_state))] sz) t) (va_A [(h0, .inr (7, [.ref h1, .ref h2, .int v_recorded, .ref h3, .ref h4, .ref h5, .int v_padLength, .ref h6, .int v_at, .int v_letter, .int v_hasUnder, .ref h7, .int v_numbersMany])), (h1, .inl (cI, 2628, .inl v_state))] sz)) 0 0 (va_A [(h0, .inr (7, [.ref h1, .ref h2, .int v_recorded, .ref h3, .ref h4, .ref h5, .int v_padLength, .ref h6, .int v_at, .int v_letter, .int v_hasUnder, .ref h7, .int v_numbersMany])), (h1, .inl (cI, 2628, .inl v_state))] sz) := by
  refine x_met_i (by decide) rfl (Nat.le_of_ble_eq_true rfl) ?_
  intro p e s m args below meth c A Q H locs ls hx hb hml hown hts hK hN hA hP hD hS hl hend
  have hown : s.vm.findClass RX7 = some m.cls := hown
  have hl : lv_has ls 6 [(0, .ref h0), (1, .int p1), (2, .int p2)] := hl
  unfold den_X7_weak at hd
  refine lv_aload_n hx hb dX7_weak_0 rfl (lv_at hl 0 rfl) ?_
  refine lv_iload_n hx hb dX7_weak_1 rfl (lv_at hl 1 rfl) ?_
  obtain ⟨q1, hq1, hd⟩ := bnd_some hd
  have hPc : va_P (dC, dI) vwCl [(h0, .inr (7, [.ref h1, .ref h2, .int v_recorded, .ref h3, .ref h4, .ref h5, .int v_padLength, .ref h6, .int v_at, .int v_letter, .int v_hasUnder, .ref h7, .int v_numbersMany])), (h1, .inl (cI, 2628, .inl v_state))] _ := hP.sub [0, 1] rfl
  have hDc := hD.sub (ws' := [(h0, .inr (7, [.ref h1, .ref h2, .int v_recorded, .ref h3, .ref h4, .ref h5, .int v_padLength, .ref h6, .int v_at, .int v_letter, .int v_hasUnder, .ref h7, .int v_numbersMany])), (h1, .inl (cI, 2628, .inl v_state))]) [0, 1] (by decide) rfl
  have hFc := va_free (wc := [(h0, .inr (7, [.ref h1, .ref h2, .int v_recorded, .ref h3, .ref h4, .ref h5, .int v_padLength, .ref h6, .int v_at, .int v_letter, .int v_hasUnder, .ref h7, .int v_numbersMany])), (h1, .inl (cI, 2628, .inl v_state))]) hD hS hA [0, 1] rfl
  refine va_calli (va_runV (As := [.int p1]) (rest := []) ⟨hx, hb, hml, hown, hts⟩ (c_X7_isBlock l dC dI cI cC cT h0 h1 h2 h3 h4 h5 h6 h7 H.size v_state v_recorded v_padLength v_at v_letter v_hasUnder v_numbersMany p1 q1 hq1) (cwV 1 hts gX7_weak_X7_isBlock rfl rfl rfl hv_X7_isBlock ⟨Nat.le_of_ble_eq_true rfl, Nat.le_of_ble_eq_true rfl⟩) ⟨preB_fb, va_recv hK hPc (ci := 7) (q0 := 0) rfl rfl, fun U hU hW => preB_mk hU hW hPc hK hDc hN⟩ rfl rfl hl.1 rfl (lv_room (Nat.le_of_ble_eq_true rfl)) dX7_weak_2 ⟨Nat.zero_le _, Nat.zero_le _⟩) hS (fun q _ h => hFc q h) hFc (fun r_ u_ t H locs ht hvm hw hB hz1 hk1 hS => ?_)
  have hw : r_ = q1 := hw
  have hw := hw.symm
  subst hw
  obtain ⟨hP, hD⟩ := x_join (ws' := [(h0, .inr (7, [.ref h1, .ref h2, .int v_recorded, .ref h3, .ref h4, .ref h5, .int v_padLength, .ref h6, .int v_at, .int v_letter, .int v_hasUnder, .ref h7, .int v_numbersMany])), (h1, .inl (cI, 2628, .inl v_state))]) hP hD [0, 1] [] rfl rfl (by decide) (by decide) hk1 hFc ht hB [0, 1] (by decide) rfl
  clear hPc hDc hFc hk1 hB ht hz1 hvm
  refine lv_if_ne (tgt := 10) hx hb dX7_weak_5 (by decide) (fun c2 => ?_) (fun c2 => ?_)
  · replace hd := ite_f c2 hd
    refine lv_iload_n hx hb dX7_weak_10 rfl (lv_at hl 2 rfl) ?_
    refine lv_iconst (v := 0) hx hb dX7_weak_11 (by decide) ?_
    refine lv_iconst (v := 1) hx hb dX7_weak_12 (by decide) ?_
    obtain ⟨q3, hq3, hd⟩ := bnd_some hd
    have hPc : va_P (dC, dI) vwCl [] _ := hP.sub [] rfl
    have hDc := hD.sub (ws' := []) [] (by decide) rfl
    have hFc := va_free (wc := []) hD hS hA [] rfl
    refine va_calli (va_runS (As := [.int p2, .int (0 : Int32), .int (1 : Int32)]) (rest := []) ⟨hx, hb, hml, hown, hts⟩ (c_X7_within l dC dI cI cC cT H.size p2 (0 : Int32) (1 : Int32) q3 hq3) (va_cwS 3 hts gX7_weak_X7_within rfl rfl rfl hp_X7_within ⟨Nat.le_of_ble_eq_true rfl, Nat.le_of_ble_eq_true rfl⟩) ⟨preB_fb, fun U hU hW => preB_mk hU hW hPc hK hDc hN⟩ rfl rfl hl.1 rfl (lv_room (Nat.le_of_ble_eq_true rfl)) dX7_weak_13 ⟨Nat.zero_le _, Nat.zero_le _⟩) hS (fun q _ h => hFc q h) hFc (fun r_ u_ t H locs ht hvm hw hB hz1 hk1 hS => ?_)
    have hw : r_ = q3 := hw
    have hw := hw.symm
    subst hw
    obtain ⟨hP, hD⟩ := x_join (ws' := [(h0, .inr (7, [.ref h1, .ref h2, .int v_recorded, .ref h3, .ref h4, .ref h5, .int v_padLength, .ref h6, .int v_at, .int v_letter, .int v_hasUnder, .ref h7, .int v_numbersMany])), (h1, .inl (cI, 2628, .inl v_state))]) hP hD [] [0, 1] rfl rfl (by decide) (by decide) hk1 hFc ht hB [0, 1] (by decide) rfl
    clear hPc hDc hFc hk1 hB ht hz1 hvm
    refine lv_if_ne (tgt := 22) hx hb dX7_weak_16 (by decide) (fun c4 => ?_) (fun c4 => ?_)
    · replace hd := ite_f c4 hd
      refine lv_aload_n hx hb dX7_weak_22 rfl (lv_at hl 0 rfl) ?_
      refine lv_iload_n hx hb dX7_weak_23 rfl (lv_at hl 1 rfl) ?_
      refine lv_iload_n hx hb dX7_weak_24 rfl (lv_at hl 2 rfl) ?_
      obtain ⟨q5, hq5, hd⟩ := bnd_some hd
      have hPc : va_P (dC, dI) vwCl [(h0, .inr (7, [.ref h1, .ref h2, .int v_recorded, .ref h3, .ref h4, .ref h5, .int v_padLength, .ref h6, .int v_at, .int v_letter, .int v_hasUnder, .ref h7, .int v_numbersMany])), (h1, .inl (cI, 2628, .inl v_state))] _ := hP.sub [0, 1] rfl
      have hDc := hD.sub (ws' := [(h0, .inr (7, [.ref h1, .ref h2, .int v_recorded, .ref h3, .ref h4, .ref h5, .int v_padLength, .ref h6, .int v_at, .int v_letter, .int v_hasUnder, .ref h7, .int v_numbersMany])), (h1, .inl (cI, 2628, .inl v_state))]) [0, 1] (by decide) rfl
      have hFc := va_free (wc := [(h0, .inr (7, [.ref h1, .ref h2, .int v_recorded, .ref h3, .ref h4, .ref h5, .int v_padLength, .ref h6, .int v_at, .int v_letter, .int v_hasUnder, .ref h7, .int v_numbersMany])), (h1, .inl (cI, 2628, .inl v_state))]) hD hS hA [0, 1] rfl
      refine va_calli (va_runV (As := [.int p1, .int p2]) (rest := []) ⟨hx, hb, hml, hown, hts⟩ (c_X7_howIs l dC dI cI cC cT h0 h1 h2 h3 h4 h5 h6 h7 H.size v_state v_recorded v_padLength v_at v_letter v_hasUnder v_numbersMany p1 p2 q5 hq5) (cwV 2 hts gX7_weak_X7_howIs rfl rfl rfl hv_X7_howIs ⟨Nat.le_of_ble_eq_true rfl, Nat.le_of_ble_eq_true rfl⟩) ⟨preB_fb, va_recv hK hPc (ci := 7) (q0 := 0) rfl rfl, fun U hU hW => preB_mk hU hW hPc hK hDc hN⟩ rfl rfl hl.1 rfl (lv_room (Nat.le_of_ble_eq_true rfl)) dX7_weak_25 ⟨Nat.zero_le _, Nat.zero_le _⟩) hS (fun q _ h => hFc q h) hFc (fun r_ u_ t H locs ht hvm hw hB hz1 hk1 hS => ?_)
      have hw : r_ = q5 := hw
      have hw := hw.symm
      subst hw
      obtain ⟨hP, hD⟩ := x_join (ws' := [(h0, .inr (7, [.ref h1, .ref h2, .int v_recorded, .ref h3, .ref h4, .ref h5, .int v_padLength, .ref h6, .int v_at, .int v_letter, .int v_hasUnder, .ref h7, .int v_numbersMany])), (h1, .inl (cI, 2628, .inl v_state))]) hP hD [0, 1] [] rfl rfl (by decide) (by decide) hk1 hFc ht hB [0, 1] (by decide) rfl
      clear hPc hDc hFc hk1 hB ht hz1 hvm
      refine lv_if_eq (tgt := 34) hx hb dX7_weak_28 (by decide) (fun c6 => ?_) (fun c6 => ?_)
      · replace hd := ite_t c6 hd
        refine lv_iconst (v := 0) hx hb dX7_weak_34 (by decide) ?_
        refine lv_istore_n (lv' := [(3, .int (0 : Int32)), (0, .ref h0), (1, .int p1), (2, .int p2)]) hx hb dX7_weak_35 rfl hl (by decide) rfl (fun ls hl => ?_)
        refine lv_aload_n hx hb dX7_weak_36 rfl (lv_at hl 1 rfl) ?_
        refine lv_iload_n hx hb dX7_weak_37 rfl (lv_at hl 2 rfl) ?_
        obtain ⟨q7, hq7, hd⟩ := bnd_some hd
        have hPc : va_P (dC, dI) vwCl [(h0, .inr (7, [.ref h1, .ref h2, .int v_recorded, .ref h3, .ref h4, .ref h5, .int v_padLength, .ref h6, .int v_at, .int v_letter, .int v_hasUnder, .ref h7, .int v_numbersMany])), (h1, .inl (cI, 2628, .inl v_state))] _ := hP.sub [0, 1] rfl
        have hDc := hD.sub (ws' := [(h0, .inr (7, [.ref h1, .ref h2, .int v_recorded, .ref h3, .ref h4, .ref h5, .int v_padLength, .ref h6, .int v_at, .int v_letter, .int v_hasUnder, .ref h7, .int v_numbersMany])), (h1, .inl (cI, 2628, .inl v_state))]) [0, 1] (by decide) rfl
        have hFc := va_free (wc := [(h0, .inr (7, [.ref h1, .ref h2, .int v_recorded, .ref h3, .ref h4, .ref h5, .int v_padLength, .ref h6, .int v_at, .int v_letter, .int v_hasUnder, .ref h7, .int v_numbersMany])), (h1, .inl (cI, 2628, .inl v_state))]) hD hS hA [0, 1] rfl
        refine va_calli (va_runV (As := [.int p1]) (rest := []) ⟨hx, hb, hml, hown, hts⟩ (c_X7_firstOf l dC dI cI cC cT h0 h1 h2 h3 h4 h5 h6 h7 H.size v_state v_recorded v_padLength v_at v_letter v_hasUnder v_numbersMany p1 q7 hq7) (cwV 1 hts gX7_weak_X7_firstOf rfl rfl rfl hv_X7_firstOf ⟨Nat.le_of_ble_eq_true rfl, Nat.le_of_ble_eq_true rfl⟩) ⟨preB_fb, va_recv hK hPc (ci := 7) (q0 := 0) rfl rfl, fun U hU hW => preB_mk hU hW hPc hK hDc hN⟩ rfl rfl hl.1 rfl (lv_room (Nat.le_of_ble_eq_true rfl)) dX7_weak_38 ⟨Nat.zero_le _, Nat.zero_le _⟩) hS (fun q _ h => hFc q h) hFc (fun r_ u_ t H locs ht hvm hw hB hz1 hk1 hS => ?_)
        have hw : r_ = q7 := hw
        have hw := hw.symm
        subst hw
        obtain ⟨hP, hD⟩ := x_join (ws' := [(h0, .inr (7, [.ref h1, .ref h2, .int v_recorded, .ref h3, .ref h4, .ref h5, .int v_padLength, .ref h6, .int v_at, .int v_letter, .int v_hasUnder, .ref h7, .int v_numbersMany])), (h1, .inl (cI, 2628, .inl v_state))]) hP hD [0, 1] [] rfl rfl (by decide) (by decide) hk1 hFc ht hB [0, 1] (by decide) rfl
        clear hPc hDc hFc hk1 hB ht hz1 hvm
        refine lv_iload_n hx hb dX7_weak_41 rfl (lv_at hl 3 rfl) ?_
        refine lv_aload_n hx hb dX7_weak_42 rfl (lv_at hl 1 rfl) ?_
        refine lv_iload_n hx hb dX7_weak_43 rfl (lv_at hl 2 rfl) ?_
        obtain ⟨q8, hq8, hd⟩ := bnd_some hd
        have hPc : va_P (dC, dI) vwCl [(h0, .inr (7, [.ref h1, .ref h2, .int v_recorded, .ref h3, .ref h4, .ref h5, .int v_padLength, .ref h6, .int v_at, .int v_letter, .int v_hasUnder, .ref h7, .int v_numbersMany])), (h1, .inl (cI, 2628, .inl v_state))] _ := hP.sub [0, 1] rfl
        have hDc := hD.sub (ws' := [(h0, .inr (7, [.ref h1, .ref h2, .int v_recorded, .ref h3, .ref h4, .ref h5, .int v_padLength, .ref h6, .int v_at, .int v_letter, .int v_hasUnder, .ref h7, .int v_numbersMany])), (h1, .inl (cI, 2628, .inl v_state))]) [0, 1] (by decide) rfl
        have hFc := va_free (wc := [(h0, .inr (7, [.ref h1, .ref h2, .int v_recorded, .ref h3, .ref h4, .ref h5, .int v_padLength, .ref h6, .int v_at, .int v_letter, .int v_hasUnder, .ref h7, .int v_numbersMany])), (h1, .inl (cI, 2628, .inl v_state))]) hD hS hA [0, 1] rfl
        refine va_calli (va_runV (As := [.int p1]) (rest := [.int p2, .int q7]) ⟨hx, hb, hml, hown, hts⟩ (c_X7_tellingSize l dC dI cI cC cT h0 h1 h2 h3 h4 h5 h6 h7 H.size v_state v_recorded v_padLength v_at v_letter v_hasUnder v_numbersMany p1 q8 hq8) (cwV 1 hts gX7_weak_X7_tellingSize rfl rfl rfl hv_X7_tellingSize ⟨Nat.le_of_ble_eq_true rfl, Nat.le_of_ble_eq_true rfl⟩) ⟨preB_fb, va_recv hK hPc (ci := 7) (q0 := 0) rfl rfl, fun U hU hW => preB_mk hU hW hPc hK hDc hN⟩ rfl rfl hl.1 rfl (lv_room (Nat.le_of_ble_eq_true rfl)) dX7_weak_44 ⟨Nat.zero_le _, Nat.zero_le _⟩) hS (fun q _ h => hFc q h) hFc (fun r_ u_ t H locs ht hvm hw hB hz1 hk1 hS => ?_)
        have hw : r_ = q8 := hw
        have hw := hw.symm
        subst hw
        obtain ⟨hP, hD⟩ := x_join (ws' := [(h0, .inr (7, [.ref h1, .ref h2, .int v_recorded, .ref h3, .ref h4, .ref h5, .int v_padLength, .ref h6, .int v_at, .int v_letter, .int v_hasUnder, .ref h7, .int v_numbersMany])), (h1, .inl (cI, 2628, .inl v_state))]) hP hD [0, 1] [] rfl rfl (by decide) (by decide) hk1 hFc ht hB [0, 1] (by decide) rfl
        clear hPc hDc hFc hk1 hB ht hz1 hvm
        refine lv_imul hx hb dX7_weak_47 ?_
        refine lv_iadd hx hb dX7_weak_48 ?_
        refine lv_istore (lv' := [(4, .int (q7 + (p2 * q8))), (3, .int (0 : Int32)), (0, .ref h0), (1, .int p1), (2, .int p2)]) hx hb dX7_weak_49 hl (by decide) rfl (fun ls hl => ?_)
        refine lv_iconst (v := 0) hx hb dX7_weak_51 (by decide) ?_
        refine lv_istore (lv' := [(5, .int (0 : Int32)), (4, .int (q7 + (p2 * q8))), (3, .int (0 : Int32)), (0, .ref h0), (1, .int p1), (2, .int p2)]) hx hb dX7_weak_52 hl (by decide) rfl (fun ls hl => ?_)
        obtain ⟨q9, hq9, hd⟩ := bnd_some hd
        have Kq9 : ∀ (H : Heap) (locs : List Loc) (ls : Array Slot), va_P (dC, dI) vwCl [(h0, .inr (7, [.ref h1, .ref h2, .int v_recorded, .ref h3, .ref h4, .ref h5, .int v_padLength, .ref h6, .int v_at, .int v_letter, .int v_hasUnder, .ref h7, .int v_numbersMany])), (h1, .inl (cI, 2628, .inl q9.2))] H → va_D A [(h0, .inr (7, [.ref h1, .ref h2, .int v_recorded, .ref h3, .ref h4, .ref h5, .int v_padLength, .ref h6, .int v_at, .int v_letter, .int v_hasUnder, .ref h7, .int v_numbersMany])), (h1, .inl (cI, 2628, .inl q9.2))] → va_S A s.heap H locs → lv_has ls 6 [(3, .int q9.1)] → W p l e rmX7_weak s m args below meth c H locs 0 0 Q (F0 m 107 ls []) := by
          intro H locs ls hP hD hS hl
          refine lv_iload_n hx hb dX7_weak_107 rfl (lv_at hl 0 rfl) ?_
          cases hd
          exact hend (by rfl) hP hD hS dX7_weak_108
        clear hd
        have KL17 : ∀ (fu : Nat) (y3_54 : Int32) (y5_54 : Int32) (v_state_54 : (Nat → Int32)) (hd : den_X7_weak_L54 p1 p2 q7 q8 fu y3_54 y5_54 v_state_54 = some q9) (H : Heap) (locs : List Loc) (ls : Array Slot), va_P (dC, dI) vwCl [(h0, .inr (7, [.ref h1, .ref h2, .int v_recorded, .ref h3, .ref h4, .ref h5, .int v_padLength, .ref h6, .int v_at, .int v_letter, .int v_hasUnder, .ref h7, .int v_numbersMany])), (h1, .inl (cI, 2628, .inl v_state_54))] H → va_D A [(h0, .inr (7, [.ref h1, .ref h2, .int v_recorded, .ref h3, .ref h4, .ref h5, .int v_padLength, .ref h6, .int v_at, .int v_letter, .int v_hasUnder, .ref h7, .int v_numbersMany])), (h1, .inl (cI, 2628, .inl v_state_54))] → va_S A s.heap H locs → lv_has ls 6 [(0, .ref h0), (1, .int p1), (2, .int p2), (3, .int y3_54), (4, .int (q7 + (p2 * q8))), (5, .int y5_54)] → W p l e rmX7_weak s m args below meth c H locs 0 0 Q (F0 m 54 ls []) := by
          intro fu
          induction fu with
          | zero => intro y3_54 y5_54 v_state_54 hd; exact no_some hd
          | succ fu ih =>
            intro y3_54 y5_54 v_state_54 hd H locs ls hP hD hS hl
            rw [den_X7_weak_L54] at hd
            refine lv_iload hx hb dX7_weak_54 (lv_at hl 5 rfl) ?_
            refine lv_aload_n hx hb dX7_weak_56 rfl (lv_at hl 0 rfl) ?_
            refine lv_iload_n hx hb dX7_weak_57 rfl (lv_at hl 1 rfl) ?_
            obtain ⟨q10, hq10, hd⟩ := bnd_some hd
            have hPc : va_P (dC, dI) vwCl [(h0, .inr (7, [.ref h1, .ref h2, .int v_recorded, .ref h3, .ref h4, .ref h5, .int v_padLength, .ref h6, .int v_at, .int v_letter, .int v_hasUnder, .ref h7, .int v_numbersMany])), (h1, .inl (cI, 2628, .inl v_state_54))] _ := hP.sub [0, 1] rfl
            have hDc := hD.sub (ws' := [(h0, .inr (7, [.ref h1, .ref h2, .int v_recorded, .ref h3, .ref h4, .ref h5, .int v_padLength, .ref h6, .int v_at, .int v_letter, .int v_hasUnder, .ref h7, .int v_numbersMany])), (h1, .inl (cI, 2628, .inl v_state_54))]) [0, 1] (by decide) rfl
            have hFc := va_free (wc := [(h0, .inr (7, [.ref h1, .ref h2, .int v_recorded, .ref h3, .ref h4, .ref h5, .int v_padLength, .ref h6, .int v_at, .int v_letter, .int v_hasUnder, .ref h7, .int v_numbersMany])), (h1, .inl (cI, 2628, .inl v_state_54))]) hD hS hA [0, 1] rfl
            refine va_calli (va_runV (As := [.int p1]) (rest := [.int y5_54]) ⟨hx, hb, hml, hown, hts⟩ (c_X7_tellingSize l dC dI cI cC cT h0 h1 h2 h3 h4 h5 h6 h7 H.size v_state_54 v_recorded v_padLength v_at v_letter v_hasUnder v_numbersMany p1 q10 hq10) (cwV 1 hts gX7_weak_X7_tellingSize rfl rfl rfl hv_X7_tellingSize ⟨Nat.le_of_ble_eq_true rfl, Nat.le_of_ble_eq_true rfl⟩) ⟨preB_fb, va_recv hK hPc (ci := 7) (q0 := 0) rfl rfl, fun U hU hW => preB_mk hU hW hPc hK hDc hN⟩ rfl rfl hl.1 rfl (lv_room (Nat.le_of_ble_eq_true rfl)) dX7_weak_58 ⟨Nat.zero_le _, Nat.zero_le _⟩) hS (fun q _ h => hFc q h) hFc (fun r_ u_ t H locs ht hvm hw hB hz1 hk1 hS => ?_)
            have hw : r_ = q10 := hw
            have hw := hw.symm
            subst hw
            obtain ⟨hP, hD⟩ := x_join (ws' := [(h0, .inr (7, [.ref h1, .ref h2, .int v_recorded, .ref h3, .ref h4, .ref h5, .int v_padLength, .ref h6, .int v_at, .int v_letter, .int v_hasUnder, .ref h7, .int v_numbersMany])), (h1, .inl (cI, 2628, .inl v_state_54))]) hP hD [0, 1] [] rfl rfl (by decide) (by decide) hk1 hFc ht hB [0, 1] (by decide) rfl
            clear hPc hDc hFc hk1 hB ht hz1 hvm
            refine lv_icmp_ge (tgt := 107) hx hb dX7_weak_61 (by decide) (fun c11 => ?_) (fun c11 => ?_)
            · replace hd := ite_t c11 hd
              cases hd
              exact Kq9 _ _ _ hP hD hS (lv_sub hl [3] rfl)
            · replace hd := ite_f c11 hd
              refine lv_aload_n hx hb dX7_weak_64 rfl (lv_at hl 0 rfl) ?_
              refine lv_iload hx hb dX7_weak_65 (lv_at hl 4 rfl) ?_
              refine lv_iload hx hb dX7_weak_67 (lv_at hl 5 rfl) ?_
              refine lv_iadd hx hb dX7_weak_69 ?_
              obtain ⟨q12, hq12, hd⟩ := bnd_some hd
              have hPc : va_P (dC, dI) vwCl [(h0, .inr (7, [.ref h1, .ref h2, .int v_recorded, .ref h3, .ref h4, .ref h5, .int v_padLength, .ref h6, .int v_at, .int v_letter, .int v_hasUnder, .ref h7, .int v_numbersMany])), (h1, .inl (cI, 2628, .inl v_state_54))] _ := hP.sub [0, 1] rfl
              have hDc := hD.sub (ws' := [(h0, .inr (7, [.ref h1, .ref h2, .int v_recorded, .ref h3, .ref h4, .ref h5, .int v_padLength, .ref h6, .int v_at, .int v_letter, .int v_hasUnder, .ref h7, .int v_numbersMany])), (h1, .inl (cI, 2628, .inl v_state_54))]) [0, 1] (by decide) rfl
              have hFc := va_free (wc := [(h0, .inr (7, [.ref h1, .ref h2, .int v_recorded, .ref h3, .ref h4, .ref h5, .int v_padLength, .ref h6, .int v_at, .int v_letter, .int v_hasUnder, .ref h7, .int v_numbersMany])), (h1, .inl (cI, 2628, .inl v_state_54))]) hD hS hA [0, 1] rfl
              refine va_calli (va_runV (As := [.int ((q7 + (p2 * q8)) + y5_54)]) (rest := []) ⟨hx, hb, hml, hown, hts⟩ (c_X7_turns l dC dI cI cC cT h0 h1 h2 h3 h4 h5 h6 h7 H.size v_state_54 v_recorded v_padLength v_at v_letter v_hasUnder v_numbersMany ((q7 + (p2 * q8)) + y5_54) q12 hq12) (cwV 1 hts gX7_weak_X7_turns rfl rfl rfl hv_X7_turns ⟨Nat.le_of_ble_eq_true rfl, Nat.le_of_ble_eq_true rfl⟩) ⟨preB_fb, va_recv hK hPc (ci := 7) (q0 := 0) rfl rfl, fun U hU hW => preB_mk hU hW hPc hK hDc hN⟩ rfl rfl hl.1 rfl (lv_room (Nat.le_of_ble_eq_true rfl)) dX7_weak_70 ⟨Nat.zero_le _, Nat.zero_le _⟩) hS (fun q _ h => hFc q h) hFc (fun r_ u_ t H locs ht hvm hw hB hz1 hk1 hS => ?_)
              have hw : r_ = q12.1 := hw
              have hw := hw.symm
              subst hw
              obtain ⟨hP, hD⟩ := x_join (ws' := [(h0, .inr (7, [.ref h1, .ref h2, .int v_recorded, .ref h3, .ref h4, .ref h5, .int v_padLength, .ref h6, .int v_at, .int v_letter, .int v_hasUnder, .ref h7, .int v_numbersMany])), (h1, .inl (cI, 2628, .inl q12.2))]) hP hD [0, 1] [] rfl rfl (by decide) (by decide) hk1 hFc ht hB [0, 1] (by decide) rfl
              clear hPc hDc hFc hk1 hB ht hz1 hvm
              refine lv_pop hx hb dX7_weak_73 rfl ?_
              refine lv_iload_n hx hb dX7_weak_74 rfl (lv_at hl 3 rfl) ?_
              refine lv_aload_n hx hb dX7_weak_75 rfl (lv_at hl 0 rfl) ?_
              refine lv_iload_n hx hb dX7_weak_76 rfl (lv_at hl 1 rfl) ?_
              refine lv_iload_n hx hb dX7_weak_77 rfl (lv_at hl 2 rfl) ?_
              obtain ⟨q13, hq13, hd⟩ := bnd_some hd
              have hPc : va_P (dC, dI) vwCl [(h0, .inr (7, [.ref h1, .ref h2, .int v_recorded, .ref h3, .ref h4, .ref h5, .int v_padLength, .ref h6, .int v_at, .int v_letter, .int v_hasUnder, .ref h7, .int v_numbersMany])), (h1, .inl (cI, 2628, .inl q12.2))] _ := hP.sub [0, 1] rfl
              have hDc := hD.sub (ws' := [(h0, .inr (7, [.ref h1, .ref h2, .int v_recorded, .ref h3, .ref h4, .ref h5, .int v_padLength, .ref h6, .int v_at, .int v_letter, .int v_hasUnder, .ref h7, .int v_numbersMany])), (h1, .inl (cI, 2628, .inl q12.2))]) [0, 1] (by decide) rfl
              have hFc := va_free (wc := [(h0, .inr (7, [.ref h1, .ref h2, .int v_recorded, .ref h3, .ref h4, .ref h5, .int v_padLength, .ref h6, .int v_at, .int v_letter, .int v_hasUnder, .ref h7, .int v_numbersMany])), (h1, .inl (cI, 2628, .inl q12.2))]) hD hS hA [0, 1] rfl
              refine va_calli (va_runV (As := [.int p1, .int p2]) (rest := [.int y3_54]) ⟨hx, hb, hml, hown, hts⟩ (c_X7_howIs l dC dI cI cC cT h0 h1 h2 h3 h4 h5 h6 h7 H.size q12.2 v_recorded v_padLength v_at v_letter v_hasUnder v_numbersMany p1 p2 q13 hq13) (cwV 2 hts gX7_weak_X7_howIs rfl rfl rfl hv_X7_howIs ⟨Nat.le_of_ble_eq_true rfl, Nat.le_of_ble_eq_true rfl⟩) ⟨preB_fb, va_recv hK hPc (ci := 7) (q0 := 0) rfl rfl, fun U hU hW => preB_mk hU hW hPc hK hDc hN⟩ rfl rfl hl.1 rfl (lv_room (Nat.le_of_ble_eq_true rfl)) dX7_weak_78 ⟨Nat.zero_le _, Nat.zero_le _⟩) hS (fun q _ h => hFc q h) hFc (fun r_ u_ t H locs ht hvm hw hB hz1 hk1 hS => ?_)
              have hw : r_ = q13 := hw
              have hw := hw.symm
              subst hw
              obtain ⟨hP, hD⟩ := x_join (ws' := [(h0, .inr (7, [.ref h1, .ref h2, .int v_recorded, .ref h3, .ref h4, .ref h5, .int v_padLength, .ref h6, .int v_at, .int v_letter, .int v_hasUnder, .ref h7, .int v_numbersMany])), (h1, .inl (cI, 2628, .inl q12.2))]) hP hD [0, 1] [] rfl rfl (by decide) (by decide) hk1 hFc ht hB [0, 1] (by decide) rfl
              clear hPc hDc hFc hk1 hB ht hz1 hvm
              obtain ⟨q14, hq14, hd⟩ := bnd_some hd
              have Kq14 : ∀ (H : Heap) (locs : List Loc) (ls : Array Slot), va_P (dC, dI) vwCl [(h0, .inr (7, [.ref h1, .ref h2, .int v_recorded, .ref h3, .ref h4, .ref h5, .int v_padLength, .ref h6, .int v_at, .int v_letter, .int v_hasUnder, .ref h7, .int v_numbersMany])), (h1, .inl (cI, 2628, .inl q12.2))] H → va_D A [(h0, .inr (7, [.ref h1, .ref h2, .int v_recorded, .ref h3, .ref h4, .ref h5, .int v_padLength, .ref h6, .int v_at, .int v_letter, .int v_hasUnder, .ref h7, .int v_numbersMany])), (h1, .inl (cI, 2628, .inl q12.2))] → va_S A s.heap H locs → lv_has ls 6 [(0, .ref h0), (1, .int p1), (2, .int p2), (4, .int (q7 + (p2 * q8))), (5, .int y5_54)] → W p l e rmX7_weak s m args below meth c H locs 0 0 Q (F0 m 89 ls [.int q14, .int y3_54]) := by
                intro H locs ls hP hD hS hl
                refine lv_iadd hx hb dX7_weak_89 ?_
                refine lv_istore_n (lv' := [(3, .int (y3_54 + q14)), (0, .ref h0), (1, .int p1), (2, .int p2), (4, .int (q7 + (p2 * q8))), (5, .int y5_54)]) hx hb dX7_weak_90 rfl hl (by decide) rfl (fun ls hl => ?_)
                refine lv_aload_n hx hb dX7_weak_91 rfl (lv_at hl 1 rfl) ?_
                refine lv_iload hx hb dX7_weak_92 (lv_at hl 4 rfl) ?_
                refine lv_iload hx hb dX7_weak_94 (lv_at hl 5 rfl) ?_
                refine lv_iadd hx hb dX7_weak_96 ?_
                obtain ⟨q15, hq15, hd⟩ := bnd_some hd
                have hPc : va_P (dC, dI) vwCl [(h0, .inr (7, [.ref h1, .ref h2, .int v_recorded, .ref h3, .ref h4, .ref h5, .int v_padLength, .ref h6, .int v_at, .int v_letter, .int v_hasUnder, .ref h7, .int v_numbersMany])), (h1, .inl (cI, 2628, .inl q12.2))] _ := hP.sub [0, 1] rfl
                have hDc := hD.sub (ws' := [(h0, .inr (7, [.ref h1, .ref h2, .int v_recorded, .ref h3, .ref h4, .ref h5, .int v_padLength, .ref h6, .int v_at, .int v_letter, .int v_hasUnder, .ref h7, .int v_numbersMany])), (h1, .inl (cI, 2628, .inl q12.2))]) [0, 1] (by decide) rfl
                have hFc := va_free (wc := [(h0, .inr (7, [.ref h1, .ref h2, .int v_recorded, .ref h3, .ref h4, .ref h5, .int v_padLength, .ref h6, .int v_at, .int v_letter, .int v_hasUnder, .ref h7, .int v_numbersMany])), (h1, .inl (cI, 2628, .inl q12.2))]) hD hS hA [0, 1] rfl
                refine va_calli (va_runV (As := [.int ((q7 + (p2 * q8)) + y5_54)]) (rest := []) ⟨hx, hb, hml, hown, hts⟩ (c_X7_turns l dC dI cI cC cT h0 h1 h2 h3 h4 h5 h6 h7 H.size q12.2 v_recorded v_padLength v_at v_letter v_hasUnder v_numbersMany ((q7 + (p2 * q8)) + y5_54) q15 hq15) (cwV 1 hts gX7_weak_X7_turns rfl rfl rfl hv_X7_turns ⟨Nat.le_of_ble_eq_true rfl, Nat.le_of_ble_eq_true rfl⟩) ⟨preB_fb, va_recv hK hPc (ci := 7) (q0 := 0) rfl rfl, fun U hU hW => preB_mk hU hW hPc hK hDc hN⟩ rfl rfl hl.1 rfl (lv_room (Nat.le_of_ble_eq_true rfl)) dX7_weak_97 ⟨Nat.zero_le _, Nat.zero_le _⟩) hS (fun q _ h => hFc q h) hFc (fun r_ u_ t H locs ht hvm hw hB hz1 hk1 hS => ?_)
                have hw : r_ = q15.1 := hw
                have hw := hw.symm
                subst hw
                obtain ⟨hP, hD⟩ := x_join (ws' := [(h0, .inr (7, [.ref h1, .ref h2, .int v_recorded, .ref h3, .ref h4, .ref h5, .int v_padLength, .ref h6, .int v_at, .int v_letter, .int v_hasUnder, .ref h7, .int v_numbersMany])), (h1, .inl (cI, 2628, .inl q15.2))]) hP hD [0, 1] [] rfl rfl (by decide) (by decide) hk1 hFc ht hB [0, 1] (by decide) rfl
                clear hPc hDc hFc hk1 hB ht hz1 hvm
                refine lv_pop hx hb dX7_weak_100 rfl ?_
                refine lv_iinc (v := (y5_54 + (1 : Int32))) (lv' := [(5, .int (y5_54 + (1 : Int32))), (3, .int (y3_54 + q14)), (0, .ref h0), (1, .int p1), (2, .int p2), (4, .int (q7 + (p2 * q8)))]) hx hb dX7_weak_101 hl (k := 5) rfl (by first | rfl | decide) (by decide) rfl (fun ls hl => ?_)
                refine lv_goto (tgt := 54) hx hb dX7_weak_104 (by decide) ?_
                exact ih (y3_54 + q14) (y5_54 + (1 : Int32)) q15.2 hd _ _ _ hP hD hS (lv_sub hl [2, 3, 4, 1, 5, 0] rfl)
              replace hd := hq14
              clear hq14
              refine lv_if_ne (tgt := 88) hx hb dX7_weak_81 (by decide) (fun c16 => ?_) (fun c16 => ?_)
              · replace hd := ite_f c16 hd
                refine lv_iconst (v := 1) hx hb dX7_weak_88 (by decide) ?_
                cases hd
                exact Kq14 _ _ _ hP hD hS (lv_sub hl [0, 1, 2, 4, 5] rfl)
              · replace hd := ite_t c16 hd
                refine lv_iconst (v := 0) hx hb dX7_weak_84 (by decide) ?_
                refine lv_goto (tgt := 89) hx hb dX7_weak_85 (by decide) ?_
                cases hd
                exact Kq14 _ _ _ hP hD hS (lv_sub hl [0, 1, 2, 4, 5] rfl)
        exact KL17 FU (0 : Int32) (0 : Int32) v_state hq9 _ _ _ hP hD hS (lv_sub hl [3, 4, 5, 2, 1, 0] rfl)
      · replace hd := ite_f c6 hd
        refine lv_bipush (v := -5) hx hb dX7_weak_31 (by decide) ?_
        cases hd
        exact hend (by rfl) hP hD hS dX7_weak_33
    · replace hd := ite_t c4 hd
      refine lv_bipush (v := -2) hx hb dX7_weak_19 (by decide) ?_
      cases hd
      exact hend (by rfl) hP hD hS dX7_weak_21
  · replace hd := ite_t c2 hd
    refine lv_iconst (v := -1) hx hb dX7_weak_8 (by decide) ?_
    cases hd
    exact hend (by rfl) hP hD hS dX7_weak_9
def rmX7_isUnder : Room := { frames := 1, cells := 0, slots := 0, locals := 22 }
theorem hp_X7_isUnder : yX7_isUnder.cls ≠ "java/lang/invoke/MethodHandle" ∧ yX7_isUnder.cls ≠ "java/lang/invoke/VarHandle" ∧ (parseMethodDescriptor yX7_isUnder.desc).map (fun d => d.parameters.length) = some 2 := by decide +kernel
theorem hv_X7_isUnder : yX7_isUnder.cls = RX7 ∧ yX7_isUnder.cls ≠ "java/lang/invoke/MethodHandle" ∧ yX7_isUnder.cls ≠ "java/lang/invoke/VarHandle" ∧ (parseMethodDescriptor yX7_isUnder.desc).map (fun d => d.parameters.length) = some 2 := by decide +kernel
set_option maxHeartbeats 4000000 in
set_option maxRecDepth 100000 in
theorem c_X7_isUnder (l : Launch) (dC : Nat → ClassId) (dI : Nat → Nat → Nat) (cI cC cT : ClassId) (h0 h1 h2 h3 h4 h5 h6 h7 : Nat) (sz : Nat) (v_state : (Nat → Int32)) (v_recorded : Int32) (v_padLength : Int32) (v_at : Int32) (v_letter : Int32) (v_hasUnder : Int32) (v_numbersMany : Int32) (p1 : Int32) (p2 : Int32) (r : Int32) (hd : den_X7_isUnder v_state p1 p2 = some r) : Met l yX7_isUnder wsX7_isUnder rmX7_isUnder (va_Pc [.ref h0, .int p1, .int p2] (preB sz (dC, dI) [(h0, .inr (7, [.ref h1, .ref h2, .int v_recorded, .ref h3, .ref h4, .ref h5, .int v_padLength, .ref h6, .int v_at, .int v_letter, .int v_hasUnder, .ref h7, .int v_numbersMany])), (h1, .inl (cI, 2628, .inl v_state))] [(cI, .int), (cC, .char), (cT, .object "CassetteTones$Tape")])) (va_Qi (S := Unit) (fun v _ => v = r) (fun _ t => posB (dC, dI) [(h0, .inr (7, [.ref h1, .ref h2, .int v_recorded, .ref h3, .ref h4, .ref h5, .int v_padLength, .ref h6, .int v_at, .int v_letter, .int v_hasUnder, .ref h7, .int v_numbersMany])), (h1, .inl (cI, 2628, .inl v_state))] [(cI, .int), (cC, .char), (cT, .object "CassetteTones$Tape")] (va_A [(h0, .inr (7, [.ref h1, .ref h2, .int v_recorded, .ref h3, .ref h4, .ref h5, .int v_padLength, .ref h6, .int v_at, .int v_letter, .int v_hasUnder, .ref h7, .int v_numbersMany])), (h1, .inl (cI, 2628, .inl v_state))] sz) t) (va_A [(h0, .inr (7, [.ref h1, .ref h2, .int v_recorded, .ref h3, .ref h4, .ref h5, .int v_padLength, .ref h6, .int v_at, .int v_letter, .int v_hasUnder, .ref h7, .int v_numbersMany])), (h1, .inl (cI, 2628, .inl v_state))] sz)) 0 0 (va_A [(h0, .inr (7, [.ref h1, .ref h2, .int v_recorded, .ref h3, .ref h4, .ref h5, .int v_padLength, .ref h6, .int v_at, .int v_letter, .int v_hasUnder, .ref h7, .int v_numbersMany])), (h1, .inl (cI, 2628, .inl v_state))] sz) := by
  refine x_met_z (by decide) rfl (Nat.le_of_ble_eq_true rfl) ?_
  intro p e s m args below meth c A Q H locs ls hx hb hml hown hts hK hN hA hP hD hS hl hend
  have hown : s.vm.findClass RX7 = some m.cls := hown
  have hl : lv_has ls 4 [(0, .ref h0), (1, .int p1), (2, .int p2)] := hl
  unfold den_X7_isUnder at hd
  refine lv_aload_n hx hb dX7_isUnder_0 rfl (lv_at hl 0 rfl) ?_
  refine lv_iload_n hx hb dX7_isUnder_1 rfl (lv_at hl 1 rfl) ?_
  refine lv_iconst (v := 1) hx hb dX7_isUnder_2 (by decide) ?_
  obtain ⟨q1, hq1, hd⟩ := bnd_some hd
  have hPc : va_P (dC, dI) vwCl [(h0, .inr (7, [.ref h1, .ref h2, .int v_recorded, .ref h3, .ref h4, .ref h5, .int v_padLength, .ref h6, .int v_at, .int v_letter, .int v_hasUnder, .ref h7, .int v_numbersMany])), (h1, .inl (cI, 2628, .inl v_state))] _ := hP.sub [0, 1] rfl
  have hDc := hD.sub (ws' := [(h0, .inr (7, [.ref h1, .ref h2, .int v_recorded, .ref h3, .ref h4, .ref h5, .int v_padLength, .ref h6, .int v_at, .int v_letter, .int v_hasUnder, .ref h7, .int v_numbersMany])), (h1, .inl (cI, 2628, .inl v_state))]) [0, 1] (by decide) rfl
  have hFc := va_free (wc := [(h0, .inr (7, [.ref h1, .ref h2, .int v_recorded, .ref h3, .ref h4, .ref h5, .int v_padLength, .ref h6, .int v_at, .int v_letter, .int v_hasUnder, .ref h7, .int v_numbersMany])), (h1, .inl (cI, 2628, .inl v_state))]) hD hS hA [0, 1] rfl
  refine va_calli (va_runV (As := [.int p1, .int (1 : Int32)]) (rest := []) ⟨hx, hb, hml, hown, hts⟩ (c_X7_part l dC dI cI cC cT h0 h1 h2 h3 h4 h5 h6 h7 H.size v_state v_recorded v_padLength v_at v_letter v_hasUnder v_numbersMany p1 (1 : Int32) q1 hq1) (cwV 2 hts gX7_isUnder_X7_part rfl rfl rfl hv_X7_part ⟨Nat.le_of_ble_eq_true rfl, Nat.le_of_ble_eq_true rfl⟩) ⟨preB_fb, va_recv hK hPc (ci := 7) (q0 := 0) rfl rfl, fun U hU hW => preB_mk hU hW hPc hK hDc hN⟩ rfl rfl hl.1 rfl (lv_room (Nat.le_of_ble_eq_true rfl)) dX7_isUnder_3 ⟨Nat.zero_le _, Nat.zero_le _⟩) hS (fun q _ h => hFc q h) hFc (fun r_ u_ t H locs ht hvm hw hB hz1 hk1 hS => ?_)
  have hw : r_ = q1 := hw
  have hw := hw.symm
  subst hw
  obtain ⟨hP, hD⟩ := x_join (ws' := [(h0, .inr (7, [.ref h1, .ref h2, .int v_recorded, .ref h3, .ref h4, .ref h5, .int v_padLength, .ref h6, .int v_at, .int v_letter, .int v_hasUnder, .ref h7, .int v_numbersMany])), (h1, .inl (cI, 2628, .inl v_state))]) hP hD [0, 1] [] rfl rfl (by decide) (by decide) hk1 hFc ht hB [0, 1] (by decide) rfl
  clear hPc hDc hFc hk1 hB ht hz1 hvm
  refine lv_istore_n (lv' := [(3, .int q1), (0, .ref h0), (1, .int p1), (2, .int p2)]) hx hb dX7_isUnder_6 rfl hl (by decide) rfl (fun ls hl => ?_)
  obtain ⟨q2, hq2, hd⟩ := bnd_some hd
  have Kq2 : ∀ (H : Heap) (locs : List Loc) (ls : Array Slot), va_P (dC, dI) vwCl [(h0, .inr (7, [.ref h1, .ref h2, .int v_recorded, .ref h3, .ref h4, .ref h5, .int v_padLength, .ref h6, .int v_at, .int v_letter, .int v_hasUnder, .ref h7, .int v_numbersMany])), (h1, .inl (cI, 2628, .inl v_state))] H → va_D A [(h0, .inr (7, [.ref h1, .ref h2, .int v_recorded, .ref h3, .ref h4, .ref h5, .int v_padLength, .ref h6, .int v_at, .int v_letter, .int v_hasUnder, .ref h7, .int v_numbersMany])), (h1, .inl (cI, 2628, .inl v_state))] → va_S A s.heap H locs → lv_has ls 4 [(2, .int p2), (3, .int q2)] → W p l e rmX7_isUnder s m args below meth c H locs 0 0 Q (F0 m 28 ls []) := by
    intro H locs ls hP hD hS hl
    refine lv_iload_n hx hb dX7_isUnder_28 rfl (lv_at hl 1 rfl) ?_
    refine lv_iload_n hx hb dX7_isUnder_29 rfl (lv_at hl 0 rfl) ?_
    refine lv_icmp_ne (tgt := 37) hx hb dX7_isUnder_30 (by decide) (fun c3 => ?_) (fun c3 => ?_)
    · replace hd := ite_f c3 hd
      refine lv_iconst (v := 0) hx hb dX7_isUnder_37 (by decide) ?_
      cases hd
      exact hend (by rfl) (by rfl) hP hD hS dX7_isUnder_38
    · replace hd := ite_t c3 hd
      refine lv_iconst (v := 1) hx hb dX7_isUnder_33 (by decide) ?_
      refine lv_goto (tgt := 38) hx hb dX7_isUnder_34 (by decide) ?_
      cases hd
      exact hend (by rfl) (by rfl) hP hD hS dX7_isUnder_38
  clear hd
  have KL7 : ∀ (fu : Nat) (y3_7 : Int32) (hd : den_X7_isUnder_L7 p2 v_state fu y3_7 = some q2) (H : Heap) (locs : List Loc) (ls : Array Slot), va_P (dC, dI) vwCl [(h0, .inr (7, [.ref h1, .ref h2, .int v_recorded, .ref h3, .ref h4, .ref h5, .int v_padLength, .ref h6, .int v_at, .int v_letter, .int v_hasUnder, .ref h7, .int v_numbersMany])), (h1, .inl (cI, 2628, .inl v_state))] H → va_D A [(h0, .inr (7, [.ref h1, .ref h2, .int v_recorded, .ref h3, .ref h4, .ref h5, .int v_padLength, .ref h6, .int v_at, .int v_letter, .int v_hasUnder, .ref h7, .int v_numbersMany])), (h1, .inl (cI, 2628, .inl v_state))] → va_S A s.heap H locs → lv_has ls 4 [(0, .ref h0), (2, .int p2), (3, .int y3_7)] → W p l e rmX7_isUnder s m args below meth c H locs 0 0 Q (F0 m 7 ls []) := by
    intro fu
    induction fu with
    | zero => intro y3_7 hd; exact no_some hd
    | succ fu ih =>
      intro y3_7 hd H locs ls hP hD hS hl
      rw [den_X7_isUnder_L7] at hd
      refine lv_iload_n hx hb dX7_isUnder_7 rfl (lv_at hl 2 rfl) ?_
      refine lv_bipush (v := -6) hx hb dX7_isUnder_8 (by decide) ?_
      refine lv_icmp_eq (tgt := 28) hx hb dX7_isUnder_10 (by decide) (fun c4 => ?_) (fun c4 => ?_)
      · replace hd := ite_t c4 hd
        cases hd
        exact Kq2 _ _ _ hP hD hS (lv_sub hl [1, 2] rfl)
      · replace hd := ite_f c4 hd
        refine lv_iload_n hx hb dX7_isUnder_13 rfl (lv_at hl 2 rfl) ?_
        refine lv_iload_n hx hb dX7_isUnder_14 rfl (lv_at hl 1 rfl) ?_
        refine lv_icmp_eq (tgt := 28) hx hb dX7_isUnder_15 (by decide) (fun c5 => ?_) (fun c5 => ?_)
        · replace hd := ite_t c5 hd
          cases hd
          exact Kq2 _ _ _ hP hD hS (lv_sub hl [1, 2] rfl)
        · replace hd := ite_f c5 hd
          refine lv_aload_n hx hb dX7_isUnder_18 rfl (lv_at hl 0 rfl) ?_
          refine lv_iload_n hx hb dX7_isUnder_19 rfl (lv_at hl 2 rfl) ?_
          refine lv_iconst (v := 1) hx hb dX7_isUnder_20 (by decide) ?_
          obtain ⟨q6, hq6, hd⟩ := bnd_some hd
          have hPc : va_P (dC, dI) vwCl [(h0, .inr (7, [.ref h1, .ref h2, .int v_recorded, .ref h3, .ref h4, .ref h5, .int v_padLength, .ref h6, .int v_at, .int v_letter, .int v_hasUnder, .ref h7, .int v_numbersMany])), (h1, .inl (cI, 2628, .inl v_state))] _ := hP.sub [0, 1] rfl
          have hDc := hD.sub (ws' := [(h0, .inr (7, [.ref h1, .ref h2, .int v_recorded, .ref h3, .ref h4, .ref h5, .int v_padLength, .ref h6, .int v_at, .int v_letter, .int v_hasUnder, .ref h7, .int v_numbersMany])), (h1, .inl (cI, 2628, .inl v_state))]) [0, 1] (by decide) rfl
          have hFc := va_free (wc := [(h0, .inr (7, [.ref h1, .ref h2, .int v_recorded, .ref h3, .ref h4, .ref h5, .int v_padLength, .ref h6, .int v_at, .int v_letter, .int v_hasUnder, .ref h7, .int v_numbersMany])), (h1, .inl (cI, 2628, .inl v_state))]) hD hS hA [0, 1] rfl
          refine va_calli (va_runV (As := [.int y3_7, .int (1 : Int32)]) (rest := []) ⟨hx, hb, hml, hown, hts⟩ (c_X7_part l dC dI cI cC cT h0 h1 h2 h3 h4 h5 h6 h7 H.size v_state v_recorded v_padLength v_at v_letter v_hasUnder v_numbersMany y3_7 (1 : Int32) q6 hq6) (cwV 2 hts gX7_isUnder_X7_part rfl rfl rfl hv_X7_part ⟨Nat.le_of_ble_eq_true rfl, Nat.le_of_ble_eq_true rfl⟩) ⟨preB_fb, va_recv hK hPc (ci := 7) (q0 := 0) rfl rfl, fun U hU hW => preB_mk hU hW hPc hK hDc hN⟩ rfl rfl hl.1 rfl (lv_room (Nat.le_of_ble_eq_true rfl)) dX7_isUnder_21 ⟨Nat.zero_le _, Nat.zero_le _⟩) hS (fun q _ h => hFc q h) hFc (fun r_ u_ t H locs ht hvm hw hB hz1 hk1 hS => ?_)
          have hw : r_ = q6 := hw
          have hw := hw.symm
          subst hw
          obtain ⟨hP, hD⟩ := x_join (ws' := [(h0, .inr (7, [.ref h1, .ref h2, .int v_recorded, .ref h3, .ref h4, .ref h5, .int v_padLength, .ref h6, .int v_at, .int v_letter, .int v_hasUnder, .ref h7, .int v_numbersMany])), (h1, .inl (cI, 2628, .inl v_state))]) hP hD [0, 1] [] rfl rfl (by decide) (by decide) hk1 hFc ht hB [0, 1] (by decide) rfl
          clear hPc hDc hFc hk1 hB ht hz1 hvm
          refine lv_istore_n (lv' := [(3, .int q6), (0, .ref h0), (2, .int p2)]) hx hb dX7_isUnder_24 rfl hl (by decide) rfl (fun ls hl => ?_)
          refine lv_goto (tgt := 7) hx hb dX7_isUnder_25 (by decide) ?_
          exact ih q6 hd _ _ _ hP hD hS (lv_sub hl [1, 2, 0] rfl)
  exact KL7 FU q1 hq2 _ _ _ hP hD hS (lv_sub hl [1, 3, 0] rfl)
def rmX7_widest : Room := { frames := 10, cells := 0, slots := 0, locals := 237 }
theorem kX7_widest_1 : (Cond.fieldLink RX7 7 "CassetteTonesModel" "state" "[I") ∈ wsX7_widest := List.mem_of_getElem? (i := 1) (by decide +kernel)
theorem inX7_widest_X7 : ∀ w ∈ wsX70, w ∈ wsX7_widest := by decide +kernel
theorem hp_X7_widest : yX7_widest.cls ≠ "java/lang/invoke/MethodHandle" ∧ yX7_widest.cls ≠ "java/lang/invoke/VarHandle" ∧ (parseMethodDescriptor yX7_widest.desc).map (fun d => d.parameters.length) = some 1 := by decide +kernel
theorem hv_X7_widest : yX7_widest.cls = RX7 ∧ yX7_widest.cls ≠ "java/lang/invoke/MethodHandle" ∧ yX7_widest.cls ≠ "java/lang/invoke/VarHandle" ∧ (parseMethodDescriptor yX7_widest.desc).map (fun d => d.parameters.length) = some 1 := by decide +kernel
set_option maxHeartbeats 4000000 in
set_option maxRecDepth 100000 in
theorem c_X7_widest (l : Launch) (dC : Nat → ClassId) (dI : Nat → Nat → Nat) (cI cC cT : ClassId) (h0 h1 h2 h3 h4 h5 h6 h7 : Nat) (sz : Nat) (v_state : (Nat → Int32)) (v_recorded : Int32) (v_padLength : Int32) (v_found : (Nat → Int32)) (v_at : Int32) (v_letter : Int32) (v_hasUnder : Int32) (v_numbersMany : Int32) (p1 : Int32) (r : (Int32 × (Nat → Int32))) (hd : den_X7_widest v_state v_found p1 = some r) : Met l yX7_widest wsX7_widest rmX7_widest (va_Pc [.ref h0, .int p1] (preB sz (dC, dI) [(h0, .inr (7, [.ref h1, .ref h2, .int v_recorded, .ref h3, .ref h4, .ref h5, .int v_padLength, .ref h6, .int v_at, .int v_letter, .int v_hasUnder, .ref h7, .int v_numbersMany])), (h1, .inl (cI, 2628, .inl v_state)), (h6, .inl (cI, 7, .inl v_found))] [(cI, .int), (cC, .char), (cT, .object "CassetteTones$Tape")])) (va_Qi (S := Unit) (fun v _ => v = r.1) (fun _ t => posB (dC, dI) [(h0, .inr (7, [.ref h1, .ref h2, .int v_recorded, .ref h3, .ref h4, .ref h5, .int v_padLength, .ref h6, .int v_at, .int v_letter, .int v_hasUnder, .ref h7, .int v_numbersMany])), (h1, .inl (cI, 2628, .inl v_state)), (h6, .inl (cI, 7, .inl r.2))] [(cI, .int), (cC, .char), (cT, .object "CassetteTones$Tape")] (va_A [(h0, .inr (7, [.ref h1, .ref h2, .int v_recorded, .ref h3, .ref h4, .ref h5, .int v_padLength, .ref h6, .int v_at, .int v_letter, .int v_hasUnder, .ref h7, .int v_numbersMany])), (h1, .inl (cI, 2628, .inl v_state)), (h6, .inl (cI, 7, .inl v_found))] sz) t) (va_A [(h0, .inr (7, [.ref h1, .ref h2, .int v_recorded, .ref h3, .ref h4, .ref h5, .int v_padLength, .ref h6, .int v_at, .int v_letter, .int v_hasUnder, .ref h7, .int v_numbersMany])), (h1, .inl (cI, 2628, .inl v_state)), (h6, .inl (cI, 7, .inl v_found))] sz)) 0 0 (va_A [(h0, .inr (7, [.ref h1, .ref h2, .int v_recorded, .ref h3, .ref h4, .ref h5, .int v_padLength, .ref h6, .int v_at, .int v_letter, .int v_hasUnder, .ref h7, .int v_numbersMany])), (h1, .inl (cI, 2628, .inl v_state)), (h6, .inl (cI, 7, .inl v_found))] sz) := by
  refine x_met_i (by decide) rfl (Nat.le_of_ble_eq_true rfl) ?_
  intro p e s m args below meth c A Q H locs ls hx hb hml hown hts hK hN hA hP hD hS hl hend
  have hown : s.vm.findClass RX7 = some m.cls := hown
  have hl : lv_has ls 8 [(0, .ref h0), (1, .int p1)] := hl
  unfold den_X7_widest at hd
  refine lv_iload_n hx hb dX7_widest_0 rfl (lv_at hl 1 rfl) ?_
  refine lv_iconst (v := 0) hx hb dX7_widest_1 (by decide) ?_
  refine lv_iconst (v := 1) hx hb dX7_widest_2 (by decide) ?_
  obtain ⟨q1, hq1, hd⟩ := bnd_some hd
  have hPc : va_P (dC, dI) vwCl [] _ := hP.sub [] rfl
  have hDc := hD.sub (ws' := []) [] (by decide) rfl
  have hFc := va_free (wc := []) hD hS hA [] rfl
  refine va_calli (va_runS (As := [.int p1, .int (0 : Int32), .int (1 : Int32)]) (rest := []) ⟨hx, hb, hml, hown, hts⟩ (c_X7_within l dC dI cI cC cT H.size p1 (0 : Int32) (1 : Int32) q1 hq1) (va_cwS 3 hts gX7_widest_X7_within rfl rfl rfl hp_X7_within ⟨Nat.le_of_ble_eq_true rfl, Nat.le_of_ble_eq_true rfl⟩) ⟨preB_fb, fun U hU hW => preB_mk hU hW hPc hK hDc hN⟩ rfl rfl hl.1 rfl (lv_room (Nat.le_of_ble_eq_true rfl)) dX7_widest_3 ⟨Nat.zero_le _, Nat.zero_le _⟩) hS (fun q _ h => hFc q h) hFc (fun r_ u_ t H locs ht hvm hw hB hz1 hk1 hS => ?_)
  have hw : r_ = q1 := hw
  have hw := hw.symm
  subst hw
  obtain ⟨hP, hD⟩ := x_join (ws' := [(h0, .inr (7, [.ref h1, .ref h2, .int v_recorded, .ref h3, .ref h4, .ref h5, .int v_padLength, .ref h6, .int v_at, .int v_letter, .int v_hasUnder, .ref h7, .int v_numbersMany])), (h1, .inl (cI, 2628, .inl v_state)), (h6, .inl (cI, 7, .inl v_found))]) hP hD [] [0, 1, 2] rfl rfl (by decide) (by decide) hk1 hFc ht hB [0, 1, 2] (by decide) rfl
  clear hPc hDc hFc hk1 hB ht hz1 hvm
  refine lv_if_ne (tgt := 12) hx hb dX7_widest_6 (by decide) (fun c2 => ?_) (fun c2 => ?_)
  · replace hd := ite_f c2 hd
    refine lv_aload_n hx hb dX7_widest_12 rfl (lv_at hl 0 rfl) ?_
    obtain ⟨q3, hq3, hd⟩ := bnd_some hd
    have hPc : va_P (dC, dI) vwCl [(h0, .inr (7, [.ref h1, .ref h2, .int v_recorded, .ref h3, .ref h4, .ref h5, .int v_padLength, .ref h6, .int v_at, .int v_letter, .int v_hasUnder, .ref h7, .int v_numbersMany])), (h1, .inl (cI, 2628, .inl v_state)), (h6, .inl (cI, 7, .inl v_found))] _ := hP.sub [0, 1, 2] rfl
    have hDc := hD.sub (ws' := [(h0, .inr (7, [.ref h1, .ref h2, .int v_recorded, .ref h3, .ref h4, .ref h5, .int v_padLength, .ref h6, .int v_at, .int v_letter, .int v_hasUnder, .ref h7, .int v_numbersMany])), (h1, .inl (cI, 2628, .inl v_state)), (h6, .inl (cI, 7, .inl v_found))]) [0, 1, 2] (by decide) rfl
    have hFc := va_free (wc := [(h0, .inr (7, [.ref h1, .ref h2, .int v_recorded, .ref h3, .ref h4, .ref h5, .int v_padLength, .ref h6, .int v_at, .int v_letter, .int v_hasUnder, .ref h7, .int v_numbersMany])), (h1, .inl (cI, 2628, .inl v_state)), (h6, .inl (cI, 7, .inl v_found))]) hD hS hA [0, 1, 2] rfl
    refine va_calli (va_runV (As := []) (rest := []) ⟨hx, hb, hml, hown, hts⟩ (c_X7_reachedSet l dC dI cI cC cT h0 h1 h2 h3 h4 h5 h6 h7 H.size v_state v_recorded v_padLength v_found v_at v_letter v_hasUnder v_numbersMany q3 hq3) (cwV 0 hts gX7_widest_X7_reachedSet rfl rfl rfl hv_X7_reachedSet ⟨Nat.le_of_ble_eq_true rfl, Nat.le_of_ble_eq_true rfl⟩) ⟨preB_fb, va_recv hK hPc (ci := 7) (q0 := 0) rfl rfl, fun U hU hW => preB_mk hU hW hPc hK hDc hN⟩ rfl rfl hl.1 rfl (lv_room (Nat.le_of_ble_eq_true rfl)) dX7_widest_13 ⟨Nat.zero_le _, Nat.zero_le _⟩) hS (fun q _ h => hFc q h) hFc (fun r_ u_ t H locs ht hvm hw hB hz1 hk1 hS => ?_)
    have hw : r_ = q3.1 := hw
    have hw := hw.symm
    subst hw
    obtain ⟨hP, hD⟩ := x_join (ws' := [(h0, .inr (7, [.ref h1, .ref h2, .int v_recorded, .ref h3, .ref h4, .ref h5, .int v_padLength, .ref h6, .int v_at, .int v_letter, .int v_hasUnder, .ref h7, .int v_numbersMany])), (h1, .inl (cI, 2628, .inl v_state)), (h6, .inl (cI, 7, .inl q3.2))]) hP hD [0, 1, 2] [] rfl rfl (by decide) (by decide) hk1 hFc ht hB [0, 1, 2] (by decide) rfl
    clear hPc hDc hFc hk1 hB ht hz1 hvm
    refine lv_istore_n (lv' := [(2, .int q3.1), (0, .ref h0), (1, .int p1)]) hx hb dX7_widest_16 rfl hl (by decide) rfl (fun ls hl => ?_)
    refine lv_bipush (v := -6) hx hb dX7_widest_17 (by decide) ?_
    refine lv_istore_n (lv' := [(3, .int (-6 : Int32)), (2, .int q3.1), (0, .ref h0), (1, .int p1)]) hx hb dX7_widest_19 rfl hl (by decide) rfl (fun ls hl => ?_)
    refine lv_bipush (v := -6) hx hb dX7_widest_20 (by decide) ?_
    refine lv_istore (lv' := [(4, .int (-6 : Int32)), (3, .int (-6 : Int32)), (2, .int q3.1), (0, .ref h0), (1, .int p1)]) hx hb dX7_widest_22 hl (by decide) rfl (fun ls hl => ?_)
    refine lv_iconst (v := 0) hx hb dX7_widest_24 (by decide) ?_
    refine lv_istore (lv' := [(5, .int (0 : Int32)), (4, .int (-6 : Int32)), (3, .int (-6 : Int32)), (2, .int q3.1), (0, .ref h0), (1, .int p1)]) hx hb dX7_widest_25 hl (by decide) rfl (fun ls hl => ?_)
    obtain ⟨q4, hq4, hd⟩ := bnd_some hd
    have Kq4 : ∀ (H : Heap) (locs : List Loc) (ls : Array Slot), va_P (dC, dI) vwCl [(h0, .inr (7, [.ref h1, .ref h2, .int v_recorded, .ref h3, .ref h4, .ref h5, .int v_padLength, .ref h6, .int v_at, .int v_letter, .int v_hasUnder, .ref h7, .int v_numbersMany])), (h1, .inl (cI, 2628, .inl v_state)), (h6, .inl (cI, 7, .inl q3.2))] H → va_D A [(h0, .inr (7, [.ref h1, .ref h2, .int v_recorded, .ref h3, .ref h4, .ref h5, .int v_padLength, .ref h6, .int v_at, .int v_letter, .int v_hasUnder, .ref h7, .int v_numbersMany])), (h1, .inl (cI, 2628, .inl v_state)), (h6, .inl (cI, 7, .inl q3.2))] → va_S A s.heap H locs → lv_has ls 8 [(1, .int p1), (3, .int q4.1), (4, .int q4.2)] → W p l e rmX7_widest s m args below meth c H locs 0 0 Q (F0 m 148 ls []) := by
      intro H locs ls hP hD hS hl
      refine lv_iload_n hx hb dX7_widest_148 rfl (lv_at hl 0 rfl) ?_
      refine lv_if_ne (tgt := 156) hx hb dX7_widest_149 (by decide) (fun c5 => ?_) (fun c5 => ?_)
      · replace hd := ite_f c5 hd
        refine lv_iload hx hb dX7_widest_156 (lv_at hl 2 rfl) ?_
        cases hd
        exact hend (by rfl) hP hD hS dX7_widest_158
      · replace hd := ite_t c5 hd
        refine lv_iload_n hx hb dX7_widest_152 rfl (lv_at hl 1 rfl) ?_
        refine lv_goto (tgt := 158) hx hb dX7_widest_153 (by decide) ?_
        cases hd
        exact hend (by rfl) hP hD hS dX7_widest_158
    clear hd
    have KL20 : ∀ (fu : Nat) (y3_27 : Int32) (y4_27 : Int32) (y5_27 : Int32) (hd : den_X7_widest_L27 v_state q3 fu y3_27 y4_27 y5_27 = some q4) (H : Heap) (locs : List Loc) (ls : Array Slot), va_P (dC, dI) vwCl [(h0, .inr (7, [.ref h1, .ref h2, .int v_recorded, .ref h3, .ref h4, .ref h5, .int v_padLength, .ref h6, .int v_at, .int v_letter, .int v_hasUnder, .ref h7, .int v_numbersMany])), (h1, .inl (cI, 2628, .inl v_state)), (h6, .inl (cI, 7, .inl q3.2))] H → va_D A [(h0, .inr (7, [.ref h1, .ref h2, .int v_recorded, .ref h3, .ref h4, .ref h5, .int v_padLength, .ref h6, .int v_at, .int v_letter, .int v_hasUnder, .ref h7, .int v_numbersMany])), (h1, .inl (cI, 2628, .inl v_state)), (h6, .inl (cI, 7, .inl q3.2))] → va_S A s.heap H locs → lv_has ls 8 [(0, .ref h0), (1, .int p1), (2, .int q3.1), (3, .int y3_27), (4, .int y4_27), (5, .int y5_27)] → W p l e rmX7_widest s m args below meth c H locs 0 0 Q (F0 m 27 ls []) := by
      intro fu
      induction fu with
      | zero => intro y3_27 y4_27 y5_27 hd; exact no_some hd
      | succ fu ih =>
        intro y3_27 y4_27 y5_27 hd H locs ls hP hD hS hl
        rw [den_X7_widest_L27] at hd
        refine lv_iload hx hb dX7_widest_27 (lv_at hl 5 rfl) ?_
        refine lv_aload_n hx hb dX7_widest_29 rfl (lv_at hl 0 rfl) ?_
        refine va_get (D := (dC, dI)) (ci := 7) (v := .ref h1) (C := RX7) (T := TX7) (N := 13) hx hb hts inX7_widest_X7 hown hK hP 0 rfl rfl 0 (by decide) (hts _ kX7_widest_1) (fun _ h9 => h9) rfl dX7_widest_30 ?_
        refine lv_iconst (v := 3) hx hb dX7_widest_33 (by decide) ?_
        refine x_iald (k := 3) hx hb hK hP 1 0 rfl rfl (inb_in (by decide)) rfl dX7_widest_34 ?_
        refine lv_icmp_ge (tgt := 148) hx hb dX7_widest_35 (by decide) (fun c6 => ?_) (fun c6 => ?_)
        · replace hd := ite_t c6 hd
          cases hd
          exact Kq4 _ _ _ hP hD hS (lv_sub hl [1, 3, 4] rfl)
        · replace hd := ite_f c6 hd
          refine lv_iconst (v := 0) hx hb dX7_widest_38 (by decide) ?_
          refine lv_istore (lv' := [(6, .int (0 : Int32)), (0, .ref h0), (1, .int p1), (2, .int q3.1), (3, .int y3_27), (4, .int y4_27), (5, .int y5_27)]) hx hb dX7_widest_39 hl (by decide) rfl (fun ls hl => ?_)
          refine lv_iconst (v := 0) hx hb dX7_widest_41 (by decide) ?_
          refine lv_istore (lv' := [(7, .int (0 : Int32)), (6, .int (0 : Int32)), (0, .ref h0), (1, .int p1), (2, .int q3.1), (3, .int y3_27), (4, .int y4_27), (5, .int y5_27)]) hx hb dX7_widest_42 hl (by decide) rfl (fun ls hl => ?_)
          obtain ⟨q7, hq7, hd⟩ := bnd_some hd
          have Kq7 : ∀ (H : Heap) (locs : List Loc) (ls : Array Slot), va_P (dC, dI) vwCl [(h0, .inr (7, [.ref h1, .ref h2, .int v_recorded, .ref h3, .ref h4, .ref h5, .int v_padLength, .ref h6, .int v_at, .int v_letter, .int v_hasUnder, .ref h7, .int v_numbersMany])), (h1, .inl (cI, 2628, .inl v_state)), (h6, .inl (cI, 7, .inl q3.2))] H → va_D A [(h0, .inr (7, [.ref h1, .ref h2, .int v_recorded, .ref h3, .ref h4, .ref h5, .int v_padLength, .ref h6, .int v_at, .int v_letter, .int v_hasUnder, .ref h7, .int v_numbersMany])), (h1, .inl (cI, 2628, .inl v_state)), (h6, .inl (cI, 7, .inl q3.2))] → va_S A s.heap H locs → lv_has ls 8 [(0, .ref h0), (1, .int p1), (2, .int q3.1), (3, .int y3_27), (4, .int y4_27), (5, .int y5_27), (6, .int q7)] → W p l e rmX7_widest s m args below meth c H locs 0 0 Q (F0 m 92 ls []) := by
            intro H locs ls hP hD hS hl
            refine lv_iload_n hx hb dX7_widest_92 rfl (lv_at hl 2 rfl) ?_
            refine lv_iload hx hb dX7_widest_93 (lv_at hl 5 rfl) ?_
            refine lv_ishr hx hb dX7_widest_95 ?_
            refine lv_iconst (v := 1) hx hb dX7_widest_96 (by decide) ?_
            refine lv_iand hx hb dX7_widest_97 ?_
            refine lv_iconst (v := 1) hx hb dX7_widest_98 (by decide) ?_
            obtain ⟨q8, hq8, hd⟩ := bnd_some hd
            have Kq8 : ∀ (H : Heap) (locs : List Loc) (ls : Array Slot), va_P (dC, dI) vwCl [(h0, .inr (7, [.ref h1, .ref h2, .int v_recorded, .ref h3, .ref h4, .ref h5, .int v_padLength, .ref h6, .int v_at, .int v_letter, .int v_hasUnder, .ref h7, .int v_numbersMany])), (h1, .inl (cI, 2628, .inl v_state)), (h6, .inl (cI, 7, .inl q3.2))] H → va_D A [(h0, .inr (7, [.ref h1, .ref h2, .int v_recorded, .ref h3, .ref h4, .ref h5, .int v_padLength, .ref h6, .int v_at, .int v_letter, .int v_hasUnder, .ref h7, .int v_numbersMany])), (h1, .inl (cI, 2628, .inl v_state)), (h6, .inl (cI, 7, .inl q3.2))] → va_S A s.heap H locs → lv_has ls 8 [(0, .ref h0), (1, .int p1), (2, .int q3.1), (3, .int y3_27), (4, .int y4_27), (5, .int y5_27), (6, .int q7)] → W p l e rmX7_widest s m args below meth c H locs 0 0 Q (F0 m 114 ls [.int q8]) := by
              intro H locs ls hP hD hS hl
              refine lv_istore (lv' := [(7, .int q8), (0, .ref h0), (1, .int p1), (2, .int q3.1), (3, .int y3_27), (4, .int y4_27), (5, .int y5_27), (6, .int q7)]) hx hb dX7_widest_114 hl (by decide) rfl (fun ls hl => ?_)
              refine lv_iload hx hb dX7_widest_116 (lv_at hl 0 rfl) ?_
              obtain ⟨q9, hq9, hd⟩ := bnd_some hd
              have Kq9 : ∀ (H : Heap) (locs : List Loc) (ls : Array Slot), va_P (dC, dI) vwCl [(h0, .inr (7, [.ref h1, .ref h2, .int v_recorded, .ref h3, .ref h4, .ref h5, .int v_padLength, .ref h6, .int v_at, .int v_letter, .int v_hasUnder, .ref h7, .int v_numbersMany])), (h1, .inl (cI, 2628, .inl v_state)), (h6, .inl (cI, 7, .inl q3.2))] H → va_D A [(h0, .inr (7, [.ref h1, .ref h2, .int v_recorded, .ref h3, .ref h4, .ref h5, .int v_padLength, .ref h6, .int v_at, .int v_letter, .int v_hasUnder, .ref h7, .int v_numbersMany])), (h1, .inl (cI, 2628, .inl v_state)), (h6, .inl (cI, 7, .inl q3.2))] → va_S A s.heap H locs → lv_has ls 8 [(0, .ref h0), (1, .int p1), (2, .int q3.1), (4, .int y4_27), (5, .int y5_27), (6, .int q7), (7, .int q8)] → W p l e rmX7_widest s m args below meth c H locs 0 0 Q (F0 m 127 ls [.int q9]) := by
                intro H locs ls hP hD hS hl
                refine lv_istore_n (lv' := [(3, .int q9), (0, .ref h0), (1, .int p1), (2, .int q3.1), (4, .int y4_27), (5, .int y5_27), (6, .int q7), (7, .int q8)]) hx hb dX7_widest_127 rfl hl (by decide) rfl (fun ls hl => ?_)
                refine lv_iload hx hb dX7_widest_128 (lv_at hl 7 rfl) ?_
                refine lv_if_eq (tgt := 138) hx hb dX7_widest_130 (by decide) (fun c10 => ?_) (fun c10 => ?_)
                · replace hd := ite_t c10 hd
                  refine lv_iload hx hb dX7_widest_138 (lv_at hl 4 rfl) ?_
                  refine lv_istore (lv' := [(4, .int y4_27), (3, .int q9), (0, .ref h0), (1, .int p1), (2, .int q3.1), (5, .int y5_27), (6, .int q7), (7, .int q8)]) hx hb dX7_widest_140 hl (by decide) rfl (fun ls hl => ?_)
                  refine lv_iinc (v := (y5_27 + (1 : Int32))) (lv' := [(5, .int (y5_27 + (1 : Int32))), (4, .int y4_27), (3, .int q9), (0, .ref h0), (1, .int p1), (2, .int q3.1), (6, .int q7), (7, .int q8)]) hx hb dX7_widest_142 hl (k := 5) rfl (by first | rfl | decide) (by decide) rfl (fun ls hl => ?_)
                  refine lv_goto (tgt := 27) hx hb dX7_widest_145 (by decide) ?_
                  exact ih q9 y4_27 (y5_27 + (1 : Int32)) hd _ _ _ hP hD hS (lv_sub hl [3, 4, 5, 2, 1, 0] rfl)
                · replace hd := ite_f c10 hd
                  refine lv_iload hx hb dX7_widest_133 (lv_at hl 6 rfl) ?_
                  refine lv_goto (tgt := 140) hx hb dX7_widest_135 (by decide) ?_
                  refine lv_istore (lv' := [(4, .int q7), (3, .int q9), (0, .ref h0), (1, .int p1), (2, .int q3.1), (5, .int y5_27), (6, .int q7), (7, .int q8)]) hx hb dX7_widest_140 hl (by decide) rfl (fun ls hl => ?_)
                  refine lv_iinc (v := (y5_27 + (1 : Int32))) (lv' := [(5, .int (y5_27 + (1 : Int32))), (4, .int q7), (3, .int q9), (0, .ref h0), (1, .int p1), (2, .int q3.1), (6, .int q7), (7, .int q8)]) hx hb dX7_widest_142 hl (k := 5) rfl (by first | rfl | decide) (by decide) rfl (fun ls hl => ?_)
                  refine lv_goto (tgt := 27) hx hb dX7_widest_145 (by decide) ?_
                  exact ih q9 q7 (y5_27 + (1 : Int32)) hd _ _ _ hP hD hS (lv_sub hl [3, 4, 5, 2, 1, 0] rfl)
              replace hd := hq9
              clear hq9
              refine lv_if_eq (tgt := 126) hx hb dX7_widest_118 (by decide) (fun c11 => ?_) (fun c11 => ?_)
              · replace hd := ite_t c11 hd
                refine lv_iload_n hx hb dX7_widest_126 rfl (lv_at hl 4 rfl) ?_
                cases hd
                exact Kq9 _ _ _ hP hD hS (lv_sub hl [1, 2, 3, 5, 6, 7, 0] rfl)
              · replace hd := ite_f c11 hd
                refine lv_iload hx hb dX7_widest_121 (lv_at hl 6 rfl) ?_
                refine lv_goto (tgt := 127) hx hb dX7_widest_123 (by decide) ?_
                cases hd
                exact Kq9 _ _ _ hP hD hS (lv_sub hl [1, 2, 3, 5, 6, 7, 0] rfl)
            replace hd := hq8
            clear hq8
            refine lv_icmp_ne (tgt := 113) hx hb dX7_widest_99 (by decide) (fun c12 => ?_) (fun c12 => ?_)
            · replace hd := ite_f c12 hd
              refine lv_iconst (v := 0) hx hb dX7_widest_113 (by decide) ?_
              cases hd
              exact Kq8 _ _ _ hP hD hS (lv_sub hl [0, 1, 2, 3, 4, 5, 6] rfl)
            · replace hd := ite_t c12 hd
              refine lv_iload hx hb dX7_widest_102 (lv_at hl 6 rfl) ?_
              refine lv_iload hx hb dX7_widest_104 (lv_at hl 4 rfl) ?_
              refine lv_icmp_le (tgt := 113) hx hb dX7_widest_106 (by decide) (fun c13 => ?_) (fun c13 => ?_)
              · replace hd := ite_t c13 hd
                refine lv_iconst (v := 0) hx hb dX7_widest_113 (by decide) ?_
                cases hd
                exact Kq8 _ _ _ hP hD hS (lv_sub hl [0, 1, 2, 3, 4, 5, 6] rfl)
              · replace hd := ite_f c13 hd
                refine lv_iconst (v := 1) hx hb dX7_widest_109 (by decide) ?_
                refine lv_goto (tgt := 114) hx hb dX7_widest_110 (by decide) ?_
                cases hd
                exact Kq8 _ _ _ hP hD hS (lv_sub hl [0, 1, 2, 3, 4, 5, 6] rfl)
          clear hd
          have KL19 : ∀ (fu : Nat) (y6_44 : Int32) (y7_44 : Int32) (hd : den_X7_widest_L44 v_state q3 y5_27 fu y6_44 y7_44 = some q7) (H : Heap) (locs : List Loc) (ls : Array Slot), va_P (dC, dI) vwCl [(h0, .inr (7, [.ref h1, .ref h2, .int v_recorded, .ref h3, .ref h4, .ref h5, .int v_padLength, .ref h6, .int v_at, .int v_letter, .int v_hasUnder, .ref h7, .int v_numbersMany])), (h1, .inl (cI, 2628, .inl v_state)), (h6, .inl (cI, 7, .inl q3.2))] H → va_D A [(h0, .inr (7, [.ref h1, .ref h2, .int v_recorded, .ref h3, .ref h4, .ref h5, .int v_padLength, .ref h6, .int v_at, .int v_letter, .int v_hasUnder, .ref h7, .int v_numbersMany])), (h1, .inl (cI, 2628, .inl v_state)), (h6, .inl (cI, 7, .inl q3.2))] → va_S A s.heap H locs → lv_has ls 8 [(0, .ref h0), (1, .int p1), (2, .int q3.1), (3, .int y3_27), (4, .int y4_27), (5, .int y5_27), (6, .int y6_44), (7, .int y7_44)] → W p l e rmX7_widest s m args below meth c H locs 0 0 Q (F0 m 44 ls []) := by
            intro fu
            induction fu with
            | zero => intro y6_44 y7_44 hd; exact no_some hd
            | succ fu ih =>
              intro y6_44 y7_44 hd H locs ls hP hD hS hl
              rw [den_X7_widest_L44] at hd
              refine lv_iload hx hb dX7_widest_44 (lv_at hl 7 rfl) ?_
              refine lv_aload_n hx hb dX7_widest_46 rfl (lv_at hl 0 rfl) ?_
              refine va_get (D := (dC, dI)) (ci := 7) (v := .ref h1) (C := RX7) (T := TX7) (N := 13) hx hb hts inX7_widest_X7 hown hK hP 0 rfl rfl 0 (by decide) (hts _ kX7_widest_1) (fun _ h9 => h9) rfl dX7_widest_47 ?_
              refine lv_iconst (v := 3) hx hb dX7_widest_50 (by decide) ?_
              refine x_iald (k := 3) hx hb hK hP 1 0 rfl rfl (inb_in (by decide)) rfl dX7_widest_51 ?_
              refine lv_icmp_ge (tgt := 92) hx hb dX7_widest_52 (by decide) (fun c14 => ?_) (fun c14 => ?_)
              · replace hd := ite_t c14 hd
                cases hd
                exact Kq7 _ _ _ hP hD hS (lv_sub hl [0, 1, 2, 3, 4, 5, 6] rfl)
              · replace hd := ite_f c14 hd
                refine lv_iload hx hb dX7_widest_55 (lv_at hl 6 rfl) ?_
                refine lv_iload_n hx hb dX7_widest_57 rfl (lv_at hl 2 rfl) ?_
                refine lv_iload hx hb dX7_widest_58 (lv_at hl 7 rfl) ?_
                refine lv_ishr hx hb dX7_widest_60 ?_
                refine lv_iconst (v := 1) hx hb dX7_widest_61 (by decide) ?_
                refine lv_iand hx hb dX7_widest_62 ?_
                refine lv_iconst (v := 1) hx hb dX7_widest_63 (by decide) ?_
                obtain ⟨q15, hq15, hd⟩ := bnd_some hd
                have Kq15 : ∀ (H : Heap) (locs : List Loc) (ls : Array Slot), va_P (dC, dI) vwCl [(h0, .inr (7, [.ref h1, .ref h2, .int v_recorded, .ref h3, .ref h4, .ref h5, .int v_padLength, .ref h6, .int v_at, .int v_letter, .int v_hasUnder, .ref h7, .int v_numbersMany])), (h1, .inl (cI, 2628, .inl v_state)), (h6, .inl (cI, 7, .inl q3.2))] H → va_D A [(h0, .inr (7, [.ref h1, .ref h2, .int v_recorded, .ref h3, .ref h4, .ref h5, .int v_padLength, .ref h6, .int v_at, .int v_letter, .int v_hasUnder, .ref h7, .int v_numbersMany])), (h1, .inl (cI, 2628, .inl v_state)), (h6, .inl (cI, 7, .inl q3.2))] → va_S A s.heap H locs → lv_has ls 8 [(0, .ref h0), (1, .int p1), (2, .int q3.1), (3, .int y3_27), (4, .int y4_27), (5, .int y5_27), (7, .int y7_44)] → W p l e rmX7_widest s m args below meth c H locs 0 0 Q (F0 m 83 ls [.int q15, .int y6_44]) := by
                  intro H locs ls hP hD hS hl
                  refine lv_iadd hx hb dX7_widest_83 ?_
                  refine lv_istore (lv' := [(6, .int (y6_44 + q15)), (0, .ref h0), (1, .int p1), (2, .int q3.1), (3, .int y3_27), (4, .int y4_27), (5, .int y5_27), (7, .int y7_44)]) hx hb dX7_widest_84 hl (by decide) rfl (fun ls hl => ?_)
                  refine lv_iinc (v := (y7_44 + (1 : Int32))) (lv' := [(7, .int (y7_44 + (1 : Int32))), (6, .int (y6_44 + q15)), (0, .ref h0), (1, .int p1), (2, .int q3.1), (3, .int y3_27), (4, .int y4_27), (5, .int y5_27)]) hx hb dX7_widest_86 hl (k := 7) rfl (by first | rfl | decide) (by decide) rfl (fun ls hl => ?_)
                  refine lv_goto (tgt := 44) hx hb dX7_widest_89 (by decide) ?_
                  exact ih (y6_44 + q15) (y7_44 + (1 : Int32)) hd _ _ _ hP hD hS (lv_sub hl [2, 3, 4, 5, 6, 7, 1, 0] rfl)
                replace hd := hq15
                clear hq15
                refine lv_icmp_ne (tgt := 82) hx hb dX7_widest_64 (by decide) (fun c16 => ?_) (fun c16 => ?_)
                · replace hd := ite_f c16 hd
                  refine lv_iconst (v := 0) hx hb dX7_widest_82 (by decide) ?_
                  cases hd
                  exact Kq15 _ _ _ hP hD hS (lv_sub hl [0, 1, 2, 3, 4, 5, 7] rfl)
                · replace hd := ite_t c16 hd
                  refine lv_aload_n hx hb dX7_widest_67 rfl (lv_at hl 0 rfl) ?_
                  refine lv_iload hx hb dX7_widest_68 (lv_at hl 7 rfl) ?_
                  refine lv_iload hx hb dX7_widest_70 (lv_at hl 5 rfl) ?_
                  obtain ⟨q17, hq17, hd⟩ := bnd_some hd
                  have hPc : va_P (dC, dI) vwCl [(h0, .inr (7, [.ref h1, .ref h2, .int v_recorded, .ref h3, .ref h4, .ref h5, .int v_padLength, .ref h6, .int v_at, .int v_letter, .int v_hasUnder, .ref h7, .int v_numbersMany])), (h1, .inl (cI, 2628, .inl v_state))] _ := hP.sub [0, 1] rfl
                  have hDc := hD.sub (ws' := [(h0, .inr (7, [.ref h1, .ref h2, .int v_recorded, .ref h3, .ref h4, .ref h5, .int v_padLength, .ref h6, .int v_at, .int v_letter, .int v_hasUnder, .ref h7, .int v_numbersMany])), (h1, .inl (cI, 2628, .inl v_state))]) [0, 1] (by decide) rfl
                  have hFc := va_free (wc := [(h0, .inr (7, [.ref h1, .ref h2, .int v_recorded, .ref h3, .ref h4, .ref h5, .int v_padLength, .ref h6, .int v_at, .int v_letter, .int v_hasUnder, .ref h7, .int v_numbersMany])), (h1, .inl (cI, 2628, .inl v_state))]) hD hS hA [0, 1] rfl
                  refine va_calli (va_runV (As := [.int y7_44, .int y5_27]) (rest := [.int y6_44]) ⟨hx, hb, hml, hown, hts⟩ (c_X7_isUnder l dC dI cI cC cT h0 h1 h2 h3 h4 h5 h6 h7 H.size v_state v_recorded v_padLength v_at v_letter v_hasUnder v_numbersMany y7_44 y5_27 q17 hq17) (cwV 2 hts gX7_widest_X7_isUnder rfl rfl rfl hv_X7_isUnder ⟨Nat.le_of_ble_eq_true rfl, Nat.le_of_ble_eq_true rfl⟩) ⟨preB_fb, va_recv hK hPc (ci := 7) (q0 := 0) rfl rfl, fun U hU hW => preB_mk hU hW hPc hK hDc hN⟩ rfl rfl hl.1 rfl (lv_room (Nat.le_of_ble_eq_true rfl)) dX7_widest_72 ⟨Nat.zero_le _, Nat.zero_le _⟩) hS (fun q _ h => hFc q h) hFc (fun r_ u_ t H locs ht hvm hw hB hz1 hk1 hS => ?_)
                  have hw : r_ = q17 := hw
                  have hw := hw.symm
                  subst hw
                  obtain ⟨hP, hD⟩ := x_join (ws' := [(h0, .inr (7, [.ref h1, .ref h2, .int v_recorded, .ref h3, .ref h4, .ref h5, .int v_padLength, .ref h6, .int v_at, .int v_letter, .int v_hasUnder, .ref h7, .int v_numbersMany])), (h1, .inl (cI, 2628, .inl v_state)), (h6, .inl (cI, 7, .inl q3.2))]) hP hD [0, 1] [2] rfl rfl (by decide) (by decide) hk1 hFc ht hB [1, 2, 0] (by decide) rfl
                  clear hPc hDc hFc hk1 hB ht hz1 hvm
                  refine lv_if_eq (tgt := 82) hx hb dX7_widest_75 (by decide) (fun c18 => ?_) (fun c18 => ?_)
                  · replace hd := ite_t c18 hd
                    refine lv_iconst (v := 0) hx hb dX7_widest_82 (by decide) ?_
                    cases hd
                    exact Kq15 _ _ _ hP hD hS (lv_sub hl [0, 1, 2, 3, 4, 5, 7] rfl)
                  · replace hd := ite_f c18 hd
                    refine lv_iconst (v := 1) hx hb dX7_widest_78 (by decide) ?_
                    refine lv_goto (tgt := 83) hx hb dX7_widest_79 (by decide) ?_
                    cases hd
                    exact Kq15 _ _ _ hP hD hS (lv_sub hl [0, 1, 2, 3, 4, 5, 7] rfl)
          exact KL19 FU (0 : Int32) (0 : Int32) hq7 _ _ _ hP hD hS (lv_sub hl [2, 3, 4, 5, 6, 7, 1, 0] rfl)
    exact KL20 FU (-6 : Int32) (-6 : Int32) (0 : Int32) hq4 _ _ _ hP hD hS (lv_sub hl [4, 5, 3, 2, 1, 0] rfl)
  · replace hd := ite_t c2 hd
    refine lv_bipush (v := -2) hx hb dX7_widest_9 (by decide) ?_
    cases hd
    exact hend (by rfl) hP hD hS dX7_widest_11
def rmX7_put : Room := { frames := 1, cells := 0, slots := 0, locals := 22 }
theorem kX7_put_1 : (Cond.constantLong RX7 113 (255)) ∈ wsX7_put := List.mem_of_getElem? (i := 1) (by decide +kernel)
theorem kX7_put_2 : (Cond.fieldLink RX7 162 "CassetteTonesModel" "padLength" "I") ∈ wsX7_put := List.mem_of_getElem? (i := 2) (by decide +kernel)
theorem kX7_put_3 : (Cond.fieldLink RX7 22 "CassetteTonesModel" "pad" "[I") ∈ wsX7_put := List.mem_of_getElem? (i := 3) (by decide +kernel)
theorem inX7_put_X7 : ∀ w ∈ wsX70, w ∈ wsX7_put := by decide +kernel
theorem hp_X7_put : yX7_put.cls ≠ "java/lang/invoke/MethodHandle" ∧ yX7_put.cls ≠ "java/lang/invoke/VarHandle" ∧ (parseMethodDescriptor yX7_put.desc).map (fun d => d.parameters.length) = some 1 := by decide +kernel
theorem hv_X7_put : yX7_put.cls = RX7 ∧ yX7_put.cls ≠ "java/lang/invoke/MethodHandle" ∧ yX7_put.cls ≠ "java/lang/invoke/VarHandle" ∧ (parseMethodDescriptor yX7_put.desc).map (fun d => d.parameters.length) = some 1 := by decide +kernel
set_option maxHeartbeats 4000000 in
set_option maxRecDepth 100000 in
theorem c_X7_put (l : Launch) (dC : Nat → ClassId) (dI : Nat → Nat → Nat) (cI cC cT : ClassId) (h0 h1 h2 h3 h4 h5 h6 h7 : Nat) (sz : Nat) (v_recorded : Int32) (v_pad : (Nat → Int32)) (v_padLength : Int32) (v_at : Int32) (v_letter : Int32) (v_hasUnder : Int32) (v_numbersMany : Int32) (p1 : Int64) (r : (Int32 × (Nat → Int32) × Int32)) (hd : den_X7_put v_pad v_padLength p1 = some r) : Met l yX7_put wsX7_put rmX7_put (va_Pc [.ref h0, .long p1] (preB sz (dC, dI) [(h0, .inr (7, [.ref h1, .ref h2, .int v_recorded, .ref h3, .ref h4, .ref h5, .int v_padLength, .ref h6, .int v_at, .int v_letter, .int v_hasUnder, .ref h7, .int v_numbersMany])), (h5, .inl (cI, 80, .inl v_pad))] [(cI, .int), (cC, .char), (cT, .object "CassetteTones$Tape")])) (va_Qi (S := Unit) (fun v _ => v = r.1) (fun _ t => posB (dC, dI) [(h0, .inr (7, [.ref h1, .ref h2, .int v_recorded, .ref h3, .ref h4, .ref h5, .int r.2.2, .ref h6, .int v_at, .int v_letter, .int v_hasUnder, .ref h7, .int v_numbersMany])), (h5, .inl (cI, 80, .inl r.2.1))] [(cI, .int), (cC, .char), (cT, .object "CassetteTones$Tape")] (va_A [(h0, .inr (7, [.ref h1, .ref h2, .int v_recorded, .ref h3, .ref h4, .ref h5, .int v_padLength, .ref h6, .int v_at, .int v_letter, .int v_hasUnder, .ref h7, .int v_numbersMany])), (h5, .inl (cI, 80, .inl v_pad))] sz) t) (va_A [(h0, .inr (7, [.ref h1, .ref h2, .int v_recorded, .ref h3, .ref h4, .ref h5, .int v_padLength, .ref h6, .int v_at, .int v_letter, .int v_hasUnder, .ref h7, .int v_numbersMany])), (h5, .inl (cI, 80, .inl v_pad))] sz)) 0 0 (va_A [(h0, .inr (7, [.ref h1, .ref h2, .int v_recorded, .ref h3, .ref h4, .ref h5, .int v_padLength, .ref h6, .int v_at, .int v_letter, .int v_hasUnder, .ref h7, .int v_numbersMany])), (h5, .inl (cI, 80, .inl v_pad))] sz) := by
  refine x_met_i (by decide) rfl (Nat.le_of_ble_eq_true rfl) ?_
  intro p e s m args below meth c A Q H locs ls hx hb hml hown hts hK hN hA hP hD hS hl hend
  have hown : s.vm.findClass RX7 = some m.cls := hown
  have hl : lv_has ls 8 [(0, .ref h0), (1, .long p1)] := hl
  unfold den_X7_put at hd
  refine lv_iconst (v := 0) hx hb dX7_put_0 (by decide) ?_
  refine lv_istore_n (lv' := [(3, .int (0 : Int32)), (0, .ref h0), (1, .long p1)]) hx hb dX7_put_1 rfl hl (by decide) rfl (fun ls hl => ?_)
  refine lv_lload_n hx hb dX7_put_2 rfl (lv_at hl 2 rfl) ?_
  refine lv_lstore (lv' := [(4, .long p1), (3, .int (0 : Int32)), (0, .ref h0), (1, .long p1)]) hx hb dX7_put_3 hl (by decide) rfl (fun ls hl => ?_)
  refine lv_iconst (v := 1) hx hb dX7_put_5 (by decide) ?_
  refine lv_istore (lv' := [(6, .int (1 : Int32)), (4, .long p1), (3, .int (0 : Int32)), (0, .ref h0), (1, .long p1)]) hx hb dX7_put_6 hl (by decide) rfl (fun ls hl => ?_)
  obtain ⟨q1, hq1, hd⟩ := bnd_some hd
  have Kq1 : ∀ (H : Heap) (locs : List Loc) (ls : Array Slot), va_P (dC, dI) vwCl [(h0, .inr (7, [.ref h1, .ref h2, .int v_recorded, .ref h3, .ref h4, .ref h5, .int v_padLength, .ref h6, .int v_at, .int v_letter, .int v_hasUnder, .ref h7, .int v_numbersMany])), (h5, .inl (cI, 80, .inl v_pad))] H → va_D A [(h0, .inr (7, [.ref h1, .ref h2, .int v_recorded, .ref h3, .ref h4, .ref h5, .int v_padLength, .ref h6, .int v_at, .int v_letter, .int v_hasUnder, .ref h7, .int v_numbersMany])), (h5, .inl (cI, 80, .inl v_pad))] → va_S A s.heap H locs → lv_has ls 8 [(0, .ref h0), (1, .long p1), (3, .int q1.1), (4, .long q1.2.1), (6, .int q1.2.2)] → W p l e rmX7_put s m args below meth c H locs 0 0 Q (F0 m 67 ls []) := by
    intro H locs ls hP hD hS hl
    refine lv_iload_n hx hb dX7_put_67 rfl (lv_at hl 2 rfl) ?_
    refine lv_if_eq (tgt := 83) hx hb dX7_put_68 (by decide) (fun c2 => ?_) (fun c2 => ?_)
    · replace hd := ite_t c2 hd
      refine lv_bipush (v := -2) hx hb dX7_put_83 (by decide) ?_
      cases hd
      exact hend (by rfl) hP hD hS dX7_put_85
    · replace hd := ite_f c2 hd
      refine lv_iload hx hb dX7_put_71 (lv_at hl 4 rfl) ?_
      refine lv_if_eq (tgt := 83) hx hb dX7_put_73 (by decide) (fun c3 => ?_) (fun c3 => ?_)
      · replace hd := ite_t c3 hd
        refine lv_bipush (v := -2) hx hb dX7_put_83 (by decide) ?_
        cases hd
        exact hend (by rfl) hP hD hS dX7_put_85
      · replace hd := ite_f c3 hd
        refine lv_lload hx hb dX7_put_76 (lv_at hl 3 rfl) ?_
        refine lv_lconst (v := 0) hx hb dX7_put_78 (by decide) ?_
        refine W.lcmp hx hb dX7_put_79 ?_
        refine lv_if_eq (tgt := 86) hx hb dX7_put_80 (by decide) (fun c4 => ?_) (fun c4 => ?_)
        · replace hd := ite_t c4 hd
          refine lv_aload_n hx hb dX7_put_86 rfl (lv_at hl 0 rfl) ?_
          refine va_get (D := (dC, dI)) (ci := 7) (v := .int v_padLength) (C := RX7) (T := TX7) (N := 13) hx hb hts inX7_put_X7 hown hK hP 0 rfl rfl 6 (by decide) (hts _ kX7_put_2) (fun _ h9 => h9) rfl dX7_put_87 ?_
          refine lv_iload_n hx hb dX7_put_90 rfl (lv_at hl 2 rfl) ?_
          refine lv_iadd hx hb dX7_put_91 ?_
          refine lv_bipush (v := 80) hx hb dX7_put_92 (by decide) ?_
          refine lv_icmp_le (tgt := 100) hx hb dX7_put_94 (by decide) (fun c5 => ?_) (fun c5 => ?_)
          · replace hd := ite_t c5 hd
            refine lv_iload_n hx hb dX7_put_100 rfl (lv_at hl 2 rfl) ?_
            refine lv_iconst (v := 1) hx hb dX7_put_101 (by decide) ?_
            refine lv_isub hx hb dX7_put_102 ?_
            refine lv_istore (lv' := [(7, .int (q1.1 - (1 : Int32))), (0, .ref h0), (1, .long p1), (3, .int q1.1), (4, .long q1.2.1), (6, .int q1.2.2)]) hx hb dX7_put_103 hl (by decide) rfl (fun ls hl => ?_)
            obtain ⟨q6, hq6, hd⟩ := bnd_some hd
            have Kq6 : ∀ (H : Heap) (locs : List Loc) (ls : Array Slot), va_P (dC, dI) vwCl [(h0, .inr (7, [.ref h1, .ref h2, .int v_recorded, .ref h3, .ref h4, .ref h5, .int q6.2, .ref h6, .int v_at, .int v_letter, .int v_hasUnder, .ref h7, .int v_numbersMany])), (h5, .inl (cI, 80, .inl q6.1))] H → va_D A [(h0, .inr (7, [.ref h1, .ref h2, .int v_recorded, .ref h3, .ref h4, .ref h5, .int q6.2, .ref h6, .int v_at, .int v_letter, .int v_hasUnder, .ref h7, .int v_numbersMany])), (h5, .inl (cI, 80, .inl q6.1))] → va_S A s.heap H locs → lv_has ls 8 [(0, .ref h0)] → W p l e rmX7_put s m args below meth c H locs 0 0 Q (F0 m 147 ls []) := by
              intro H locs ls hP hD hS hl
              refine lv_aload_n hx hb dX7_put_147 rfl (lv_at hl 0 rfl) ?_
              refine va_get (D := (dC, dI)) (ci := 7) (v := .int q6.2) (C := RX7) (T := TX7) (N := 13) hx hb hts inX7_put_X7 hown hK hP 0 rfl rfl 6 (by decide) (hts _ kX7_put_2) (fun _ h9 => h9) rfl dX7_put_148 ?_
              cases hd
              exact hend (by rfl) hP hD hS dX7_put_151
            clear hd
            have KL9 : ∀ (fu : Nat) (y7_105 : Int32) (v_pad_105 : (Nat → Int32)) (v_padLength_105 : Int32) (hd : den_X7_put_L105 p1 fu y7_105 v_pad_105 v_padLength_105 = some q6) (H : Heap) (locs : List Loc) (ls : Array Slot), va_P (dC, dI) vwCl [(h0, .inr (7, [.ref h1, .ref h2, .int v_recorded, .ref h3, .ref h4, .ref h5, .int v_padLength_105, .ref h6, .int v_at, .int v_letter, .int v_hasUnder, .ref h7, .int v_numbersMany])), (h5, .inl (cI, 80, .inl v_pad_105))] H → va_D A [(h0, .inr (7, [.ref h1, .ref h2, .int v_recorded, .ref h3, .ref h4, .ref h5, .int v_padLength_105, .ref h6, .int v_at, .int v_letter, .int v_hasUnder, .ref h7, .int v_numbersMany])), (h5, .inl (cI, 80, .inl v_pad_105))] → va_S A s.heap H locs → lv_has ls 8 [(0, .ref h0), (1, .long p1), (7, .int y7_105)] → W p l e rmX7_put s m args below meth c H locs 0 0 Q (F0 m 105 ls []) := by
              intro fu
              induction fu with
              | zero => intro y7_105 v_pad_105 v_padLength_105 hd; exact no_some hd
              | succ fu ih =>
                intro y7_105 v_pad_105 v_padLength_105 hd H locs ls hP hD hS hl
                rw [den_X7_put_L105] at hd
                refine lv_iload hx hb dX7_put_105 (lv_at hl 2 rfl) ?_
                refine lv_if_lt (tgt := 147) hx hb dX7_put_107 (by decide) (fun c7 => ?_) (fun c7 => ?_)
                · replace hd := ite_t c7 hd
                  cases hd
                  exact Kq6 _ _ _ hP hD hS (lv_sub hl [0] rfl)
                · replace hd := ite_f c7 hd
                  refine lv_aload_n hx hb dX7_put_110 rfl (lv_at hl 0 rfl) ?_
                  refine va_get (D := (dC, dI)) (ci := 7) (v := .ref h5) (C := RX7) (T := TX7) (N := 13) hx hb hts inX7_put_X7 hown hK hP 0 rfl rfl 5 (by decide) (hts _ kX7_put_3) (fun _ h9 => h9) rfl dX7_put_111 ?_
                  refine lv_aload_n hx hb dX7_put_114 rfl (lv_at hl 0 rfl) ?_
                  refine va_get (D := (dC, dI)) (ci := 7) (v := .int v_padLength_105) (C := RX7) (T := TX7) (N := 13) hx hb hts inX7_put_X7 hown hK hP 0 rfl rfl 6 (by decide) (hts _ kX7_put_2) (fun _ h9 => h9) rfl dX7_put_115 ?_
                  refine lv_lload_n hx hb dX7_put_118 rfl (lv_at hl 1 rfl) ?_
                  refine lv_bipush (v := 8) hx hb dX7_put_119 (by decide) ?_
                  refine lv_iload hx hb dX7_put_121 (lv_at hl 2 rfl) ?_
                  refine lv_imul hx hb dX7_put_123 ?_
                  refine lv_lushr (v := ((p1).toUInt64 >>> ((((8 : Int32) * y7_105)).toInt64.toUInt64 &&& Int64.toUInt64 63)).toInt64) hx hb dX7_put_124 rfl ?_
                  refine lv_ldc2 (v := 255) hx hb hown (hts _ kX7_put_1) dX7_put_125 ?_
                  refine lv_land hx hb dX7_put_128 ?_
                  refine lv_l2i (v := (((((p1).toUInt64 >>> ((((8 : Int32) * y7_105)).toInt64.toUInt64 &&& Int64.toUInt64 63)).toInt64) &&& (255 : Int64))).toInt32) hx hb dX7_put_129 rfl ?_
                  obtain ⟨g8, hd⟩ := gd_some hd
                  refine x_iast (k := v_padLength_105.toNatClampNeg) hx hb hK hP hD hS 1 0 rfl rfl (inb_in g8) rfl dX7_put_130 (fun H locs hP hD hS => ?_)
                  have hP : va_P (dC, dI) vwCl [(h0, .inr (7, [.ref h1, .ref h2, .int v_recorded, .ref h3, .ref h4, .ref h5, .int v_padLength_105, .ref h6, .int v_at, .int v_letter, .int v_hasUnder, .ref h7, .int v_numbersMany])), (h5, .inl (cI, 80, .inl (upd v_pad_105 v_padLength_105.toNatClampNeg ((((((p1).toUInt64 >>> ((((8 : Int32) * y7_105)).toInt64.toUInt64 &&& Int64.toUInt64 63)).toInt64) &&& (255 : Int64))).toInt32))))] H := hP
                  have hD : va_D A [(h0, .inr (7, [.ref h1, .ref h2, .int v_recorded, .ref h3, .ref h4, .ref h5, .int v_padLength_105, .ref h6, .int v_at, .int v_letter, .int v_hasUnder, .ref h7, .int v_numbersMany])), (h5, .inl (cI, 80, .inl (upd v_pad_105 v_padLength_105.toNatClampNeg ((((((p1).toUInt64 >>> ((((8 : Int32) * y7_105)).toInt64.toUInt64 &&& Int64.toUInt64 63)).toInt64) &&& (255 : Int64))).toInt32))))] := hD
                  refine lv_aload_n hx hb dX7_put_131 rfl (lv_at hl 0 rfl) ?_
                  refine lv_dup hx hb dX7_put_132 rfl ?_
                  refine va_get (D := (dC, dI)) (ci := 7) (v := .int v_padLength_105) (C := RX7) (T := TX7) (N := 13) hx hb hts inX7_put_X7 hown hK hP 0 rfl rfl 6 (by decide) (hts _ kX7_put_2) (fun _ h9 => h9) rfl dX7_put_133 ?_
                  refine lv_iconst (v := 1) hx hb dX7_put_136 (by decide) ?_
                  refine lv_iadd hx hb dX7_put_137 ?_
                  refine va_put (D := (dC, dI)) (ci := 7) (v := .int (v_padLength_105 + (1 : Int32))) (ty := .int) (C := RX7) (T := TX7) (N := 13) hx hb hts inX7_put_X7 tyX7 tyX7_ok nmX7 hown hK hP hD hS 0 rfl rfl 6 (by decide) (hts _ kX7_put_2) (fun _ h9 => h9) rfl (by decide +kernel) rfl rfl (Nat.le_of_ble_eq_true rfl) dX7_put_138 (fun H locs hP hD hS => ?_)
                  have hP : va_P (dC, dI) vwCl [(h0, .inr (7, [.ref h1, .ref h2, .int v_recorded, .ref h3, .ref h4, .ref h5, .int (v_padLength_105 + (1 : Int32)), .ref h6, .int v_at, .int v_letter, .int v_hasUnder, .ref h7, .int v_numbersMany])), (h5, .inl (cI, 80, .inl (upd v_pad_105 v_padLength_105.toNatClampNeg ((((((p1).toUInt64 >>> ((((8 : Int32) * y7_105)).toInt64.toUInt64 &&& Int64.toUInt64 63)).toInt64) &&& (255 : Int64))).toInt32))))] H := hP
                  have hD : va_D A [(h0, .inr (7, [.ref h1, .ref h2, .int v_recorded, .ref h3, .ref h4, .ref h5, .int (v_padLength_105 + (1 : Int32)), .ref h6, .int v_at, .int v_letter, .int v_hasUnder, .ref h7, .int v_numbersMany])), (h5, .inl (cI, 80, .inl (upd v_pad_105 v_padLength_105.toNatClampNeg ((((((p1).toUInt64 >>> ((((8 : Int32) * y7_105)).toInt64.toUInt64 &&& Int64.toUInt64 63)).toInt64) &&& (255 : Int64))).toInt32))))] := hD
                  refine lv_iinc (v := (y7_105 + (-1 : Int32))) (lv' := [(7, .int (y7_105 + (-1 : Int32))), (0, .ref h0), (1, .long p1)]) hx hb dX7_put_141 hl (k := 2) rfl (by first | rfl | decide) (by decide) rfl (fun ls hl => ?_)
                  refine lv_goto (tgt := 105) hx hb dX7_put_144 (by decide) ?_
                  exact ih (y7_105 + (-1 : Int32)) (upd v_pad_105 v_padLength_105.toNatClampNeg ((((((p1).toUInt64 >>> ((((8 : Int32) * y7_105)).toInt64.toUInt64 &&& Int64.toUInt64 63)).toInt64) &&& (255 : Int64))).toInt32)) (v_padLength_105 + (1 : Int32)) hd _ _ _ hP hD hS (lv_sub hl [1, 2, 0] rfl)
            exact KL9 FU (q1.1 - (1 : Int32)) v_pad v_padLength hq6 _ _ _ hP hD hS (lv_sub hl [1, 2, 0] rfl)
          · replace hd := ite_f c5 hd
            refine lv_bipush (v := -4) hx hb dX7_put_97 (by decide) ?_
            cases hd
            exact hend (by rfl) hP hD hS dX7_put_99
        · replace hd := ite_f c4 hd
          refine lv_bipush (v := -2) hx hb dX7_put_83 (by decide) ?_
          cases hd
          exact hend (by rfl) hP hD hS dX7_put_85
  clear hd
  have KL17 : ∀ (fu : Nat) (y3_8 : Int32) (y4_8 : Int64) (y6_8 : Int32) (hd : den_X7_put_L8 fu y3_8 y4_8 y6_8 = some q1) (H : Heap) (locs : List Loc) (ls : Array Slot), va_P (dC, dI) vwCl [(h0, .inr (7, [.ref h1, .ref h2, .int v_recorded, .ref h3, .ref h4, .ref h5, .int v_padLength, .ref h6, .int v_at, .int v_letter, .int v_hasUnder, .ref h7, .int v_numbersMany])), (h5, .inl (cI, 80, .inl v_pad))] H → va_D A [(h0, .inr (7, [.ref h1, .ref h2, .int v_recorded, .ref h3, .ref h4, .ref h5, .int v_padLength, .ref h6, .int v_at, .int v_letter, .int v_hasUnder, .ref h7, .int v_numbersMany])), (h5, .inl (cI, 80, .inl v_pad))] → va_S A s.heap H locs → lv_has ls 8 [(0, .ref h0), (1, .long p1), (3, .int y3_8), (4, .long y4_8), (6, .int y6_8)] → W p l e rmX7_put s m args below meth c H locs 0 0 Q (F0 m 8 ls []) := by
    intro fu
    induction fu with
    | zero => intro y3_8 y4_8 y6_8 hd; exact no_some hd
    | succ fu ih =>
      intro y3_8 y4_8 y6_8 hd H locs ls hP hD hS hl
      rw [den_X7_put_L8] at hd
      refine lv_iload_n hx hb dX7_put_8 rfl (lv_at hl 2 rfl) ?_
      refine lv_bipush (v := 8) hx hb dX7_put_9 (by decide) ?_
      refine lv_icmp_ge (tgt := 67) hx hb dX7_put_11 (by decide) (fun c10 => ?_) (fun c10 => ?_)
      · replace hd := ite_t c10 hd
        cases hd
        exact Kq1 _ _ _ hP hD hS (lv_sub hl [0, 1, 2, 3, 4] rfl)
      · replace hd := ite_f c10 hd
        refine lv_lload hx hb dX7_put_14 (lv_at hl 3 rfl) ?_
        refine lv_ldc2 (v := 255) hx hb hown (hts _ kX7_put_1) dX7_put_16 ?_
        refine lv_land hx hb dX7_put_19 ?_
        refine lv_lconst (v := 0) hx hb dX7_put_20 (by decide) ?_
        refine W.lcmp hx hb dX7_put_21 ?_
        refine lv_if_eq (tgt := 67) hx hb dX7_put_22 (by decide) (fun c11 => ?_) (fun c11 => ?_)
        · replace hd := ite_t c11 hd
          cases hd
          exact Kq1 _ _ _ hP hD hS (lv_sub hl [0, 1, 2, 3, 4] rfl)
        · replace hd := ite_f c11 hd
          refine lv_iload hx hb dX7_put_25 (lv_at hl 4 rfl) ?_
          obtain ⟨q12, hq12, hd⟩ := bnd_some hd
          have Kq12 : ∀ (H : Heap) (locs : List Loc) (ls : Array Slot), va_P (dC, dI) vwCl [(h0, .inr (7, [.ref h1, .ref h2, .int v_recorded, .ref h3, .ref h4, .ref h5, .int v_padLength, .ref h6, .int v_at, .int v_letter, .int v_hasUnder, .ref h7, .int v_numbersMany])), (h5, .inl (cI, 80, .inl v_pad))] H → va_D A [(h0, .inr (7, [.ref h1, .ref h2, .int v_recorded, .ref h3, .ref h4, .ref h5, .int v_padLength, .ref h6, .int v_at, .int v_letter, .int v_hasUnder, .ref h7, .int v_numbersMany])), (h5, .inl (cI, 80, .inl v_pad))] → va_S A s.heap H locs → lv_has ls 8 [(0, .ref h0), (1, .long p1), (3, .int y3_8), (4, .long y4_8)] → W p l e rmX7_put s m args below meth c H locs 0 0 Q (F0 m 52 ls [.int q12]) := by
            intro H locs ls hP hD hS hl
            refine lv_istore (lv' := [(6, .int q12), (0, .ref h0), (1, .long p1), (3, .int y3_8), (4, .long y4_8)]) hx hb dX7_put_52 hl (by decide) rfl (fun ls hl => ?_)
            refine lv_lload hx hb dX7_put_54 (lv_at hl 4 rfl) ?_
            refine lv_bipush (v := 8) hx hb dX7_put_56 (by decide) ?_
            refine lv_lushr (v := ((y4_8).toUInt64 >>> (((8 : Int32)).toInt64.toUInt64 &&& Int64.toUInt64 63)).toInt64) hx hb dX7_put_58 rfl ?_
            refine lv_topl (fun x13 ex13 => ?_)
            replace hd := nm_some ex13 hd
            refine lv_lstore (lv' := [(4, .long x13), (6, .int q12), (0, .ref h0), (1, .long p1), (3, .int y3_8)]) hx hb dX7_put_59 hl (by decide) rfl (fun ls hl => ?_)
            refine lv_iinc (v := (y3_8 + (1 : Int32))) (lv' := [(3, .int (y3_8 + (1 : Int32))), (4, .long x13), (6, .int q12), (0, .ref h0), (1, .long p1)]) hx hb dX7_put_61 hl (k := 4) rfl (by first | rfl | decide) (by decide) rfl (fun ls hl => ?_)
            refine lv_goto (tgt := 8) hx hb dX7_put_64 (by decide) ?_
            exact ih (y3_8 + (1 : Int32)) x13 q12 hd _ _ _ hP hD hS (lv_sub hl [3, 4, 0, 1, 2] rfl)
          replace hd := hq12
          clear hq12
          refine lv_if_eq (tgt := 51) hx hb dX7_put_27 (by decide) (fun c14 => ?_) (fun c14 => ?_)
          · replace hd := ite_t c14 hd
            refine lv_iconst (v := 0) hx hb dX7_put_51 (by decide) ?_
            cases hd
            exact Kq12 _ _ _ hP hD hS (lv_sub hl [0, 1, 2, 3] rfl)
          · replace hd := ite_f c14 hd
            refine lv_lload hx hb dX7_put_30 (lv_at hl 3 rfl) ?_
            refine lv_ldc2 (v := 255) hx hb hown (hts _ kX7_put_1) dX7_put_32 ?_
            refine lv_land hx hb dX7_put_35 ?_
            refine lv_l2i (v := ((y4_8 &&& (255 : Int64))).toInt32) hx hb dX7_put_36 rfl ?_
            refine lv_bipush (v := 33) hx hb dX7_put_37 (by decide) ?_
            refine lv_bipush (v := 126) hx hb dX7_put_39 (by decide) ?_
            obtain ⟨q15, hq15, hd⟩ := bnd_some hd
            have hPc : va_P (dC, dI) vwCl [] _ := hP.sub [] rfl
            have hDc := hD.sub (ws' := []) [] (by decide) rfl
            have hFc := va_free (wc := []) hD hS hA [] rfl
            refine va_calli (va_runS (As := [.int (((y4_8 &&& (255 : Int64))).toInt32), .int (33 : Int32), .int (126 : Int32)]) (rest := []) ⟨hx, hb, hml, hown, hts⟩ (c_X7_within l dC dI cI cC cT H.size (((y4_8 &&& (255 : Int64))).toInt32) (33 : Int32) (126 : Int32) q15 hq15) (va_cwS 3 hts gX7_put_X7_within rfl rfl rfl hp_X7_within ⟨Nat.le_of_ble_eq_true rfl, Nat.le_of_ble_eq_true rfl⟩) ⟨preB_fb, fun U hU hW => preB_mk hU hW hPc hK hDc hN⟩ rfl rfl hl.1 rfl (lv_room (Nat.le_of_ble_eq_true rfl)) dX7_put_41 ⟨Nat.zero_le _, Nat.zero_le _⟩) hS (fun q _ h => hFc q h) hFc (fun r_ u_ t H locs ht hvm hw hB hz1 hk1 hS => ?_)
            have hw : r_ = q15 := hw
            have hw := hw.symm
            subst hw
            obtain ⟨hP, hD⟩ := x_join (ws' := [(h0, .inr (7, [.ref h1, .ref h2, .int v_recorded, .ref h3, .ref h4, .ref h5, .int v_padLength, .ref h6, .int v_at, .int v_letter, .int v_hasUnder, .ref h7, .int v_numbersMany])), (h5, .inl (cI, 80, .inl v_pad))]) hP hD [] [0, 1] rfl rfl (by decide) (by decide) hk1 hFc ht hB [0, 1] (by decide) rfl
            clear hPc hDc hFc hk1 hB ht hz1 hvm
            refine lv_if_eq (tgt := 51) hx hb dX7_put_44 (by decide) (fun c16 => ?_) (fun c16 => ?_)
            · replace hd := ite_t c16 hd
              refine lv_iconst (v := 0) hx hb dX7_put_51 (by decide) ?_
              cases hd
              exact Kq12 _ _ _ hP hD hS (lv_sub hl [0, 1, 2, 3] rfl)
            · replace hd := ite_f c16 hd
              refine lv_iconst (v := 1) hx hb dX7_put_47 (by decide) ?_
              refine lv_goto (tgt := 52) hx hb dX7_put_48 (by decide) ?_
              cases hd
              exact Kq12 _ _ _ hP hD hS (lv_sub hl [0, 1, 2, 3] rfl)
  exact KL17 FU (0 : Int32) p1 (1 : Int32) hq1 _ _ _ hP hD hS (lv_sub hl [3, 4, 2, 1, 0] rfl)
def rmX7_wipe : Room := { frames := 0, cells := 0, slots := 0, locals := 0 }
theorem kX7_wipe_1 : (Cond.fieldLink RX7 162 "CassetteTonesModel" "padLength" "I") ∈ wsX7_wipe := List.mem_of_getElem? (i := 1) (by decide +kernel)
theorem inX7_wipe_X7 : ∀ w ∈ wsX70, w ∈ wsX7_wipe := by decide +kernel
theorem hp_X7_wipe : yX7_wipe.cls ≠ "java/lang/invoke/MethodHandle" ∧ yX7_wipe.cls ≠ "java/lang/invoke/VarHandle" ∧ (parseMethodDescriptor yX7_wipe.desc).map (fun d => d.parameters.length) = some 0 := by decide +kernel
theorem hv_X7_wipe : yX7_wipe.cls = RX7 ∧ yX7_wipe.cls ≠ "java/lang/invoke/MethodHandle" ∧ yX7_wipe.cls ≠ "java/lang/invoke/VarHandle" ∧ (parseMethodDescriptor yX7_wipe.desc).map (fun d => d.parameters.length) = some 0 := by decide +kernel
set_option maxHeartbeats 4000000 in
set_option maxRecDepth 100000 in
theorem c_X7_wipe (l : Launch) (dC : Nat → ClassId) (dI : Nat → Nat → Nat) (cI cC cT : ClassId) (h0 h1 h2 h3 h4 h5 h6 h7 : Nat) (sz : Nat) (v_recorded : Int32) (v_padLength : Int32) (v_at : Int32) (v_letter : Int32) (v_hasUnder : Int32) (v_numbersMany : Int32) (r : (Int32 × Int32)) (hd : den_X7_wipe v_padLength = some r) : Met l yX7_wipe wsX7_wipe rmX7_wipe (va_Pc [.ref h0] (preB sz (dC, dI) [(h0, .inr (7, [.ref h1, .ref h2, .int v_recorded, .ref h3, .ref h4, .ref h5, .int v_padLength, .ref h6, .int v_at, .int v_letter, .int v_hasUnder, .ref h7, .int v_numbersMany]))] [(cI, .int), (cC, .char), (cT, .object "CassetteTones$Tape")])) (va_Qi (S := Unit) (fun v _ => v = r.1) (fun _ t => posB (dC, dI) [(h0, .inr (7, [.ref h1, .ref h2, .int v_recorded, .ref h3, .ref h4, .ref h5, .int r.2, .ref h6, .int v_at, .int v_letter, .int v_hasUnder, .ref h7, .int v_numbersMany]))] [(cI, .int), (cC, .char), (cT, .object "CassetteTones$Tape")] (va_A [(h0, .inr (7, [.ref h1, .ref h2, .int v_recorded, .ref h3, .ref h4, .ref h5, .int v_padLength, .ref h6, .int v_at, .int v_letter, .int v_hasUnder, .ref h7, .int v_numbersMany]))] sz) t) (va_A [(h0, .inr (7, [.ref h1, .ref h2, .int v_recorded, .ref h3, .ref h4, .ref h5, .int v_padLength, .ref h6, .int v_at, .int v_letter, .int v_hasUnder, .ref h7, .int v_numbersMany]))] sz)) 0 0 (va_A [(h0, .inr (7, [.ref h1, .ref h2, .int v_recorded, .ref h3, .ref h4, .ref h5, .int v_padLength, .ref h6, .int v_at, .int v_letter, .int v_hasUnder, .ref h7, .int v_numbersMany]))] sz) := by
  refine x_met_i (by decide) rfl (Nat.le_of_ble_eq_true rfl) ?_
  intro p e s m args below meth c A Q H locs ls hx hb hml hown hts hK hN hA hP hD hS hl hend
  have hown : s.vm.findClass RX7 = some m.cls := hown
  have hl : lv_has ls 2 [(0, .ref h0)] := hl
  unfold den_X7_wipe at hd
  refine lv_aload_n hx hb dX7_wipe_0 rfl (lv_at hl 0 rfl) ?_
  refine va_get (D := (dC, dI)) (ci := 7) (v := .int v_padLength) (C := RX7) (T := TX7) (N := 13) hx hb hts inX7_wipe_X7 hown hK hP 0 rfl rfl 6 (by decide) (hts _ kX7_wipe_1) (fun _ h9 => h9) rfl dX7_wipe_1 ?_
  refine lv_istore_n (lv' := [(1, .int v_padLength), (0, .ref h0)]) hx hb dX7_wipe_4 rfl hl (by decide) rfl (fun ls hl => ?_)
  refine lv_aload_n hx hb dX7_wipe_5 rfl (lv_at hl 1 rfl) ?_
  refine lv_iconst (v := 0) hx hb dX7_wipe_6 (by decide) ?_
  refine va_put (D := (dC, dI)) (ci := 7) (v := .int (0 : Int32)) (ty := .int) (C := RX7) (T := TX7) (N := 13) hx hb hts inX7_wipe_X7 tyX7 tyX7_ok nmX7 hown hK hP hD hS 0 rfl rfl 6 (by decide) (hts _ kX7_wipe_1) (fun _ h9 => h9) rfl (by decide +kernel) rfl rfl (Nat.le_of_ble_eq_true rfl) dX7_wipe_7 (fun H locs hP hD hS => ?_)
  have hP : va_P (dC, dI) vwCl [(h0, .inr (7, [.ref h1, .ref h2, .int v_recorded, .ref h3, .ref h4, .ref h5, .int (0 : Int32), .ref h6, .int v_at, .int v_letter, .int v_hasUnder, .ref h7, .int v_numbersMany]))] H := hP
  have hD : va_D A [(h0, .inr (7, [.ref h1, .ref h2, .int v_recorded, .ref h3, .ref h4, .ref h5, .int (0 : Int32), .ref h6, .int v_at, .int v_letter, .int v_hasUnder, .ref h7, .int v_numbersMany]))] := hD
  refine lv_iload_n hx hb dX7_wipe_10 rfl (lv_at hl 0 rfl) ?_
  cases hd
  exact hend (by rfl) hP hD hS dX7_wipe_11
def rmX7_character : Room := { frames := 0, cells := 0, slots := 0, locals := 0 }
theorem kX7_character_1 : (Cond.fieldLink RX7 162 "CassetteTonesModel" "padLength" "I") ∈ wsX7_character := List.mem_of_getElem? (i := 1) (by decide +kernel)
theorem kX7_character_2 : (Cond.fieldLink RX7 22 "CassetteTonesModel" "pad" "[I") ∈ wsX7_character := List.mem_of_getElem? (i := 2) (by decide +kernel)
theorem inX7_character_X7 : ∀ w ∈ wsX70, w ∈ wsX7_character := by decide +kernel
theorem hp_X7_character : yX7_character.cls ≠ "java/lang/invoke/MethodHandle" ∧ yX7_character.cls ≠ "java/lang/invoke/VarHandle" ∧ (parseMethodDescriptor yX7_character.desc).map (fun d => d.parameters.length) = some 1 := by decide +kernel
theorem hv_X7_character : yX7_character.cls = RX7 ∧ yX7_character.cls ≠ "java/lang/invoke/MethodHandle" ∧ yX7_character.cls ≠ "java/lang/invoke/VarHandle" ∧ (parseMethodDescriptor yX7_character.desc).map (fun d => d.parameters.length) = some 1 := by decide +kernel
set_option maxHeartbeats 4000000 in
set_option maxRecDepth 100000 in
theorem c_X7_character (l : Launch) (dC : Nat → ClassId) (dI : Nat → Nat → Nat) (cI cC cT : ClassId) (h0 h1 h2 h3 h4 h5 h6 h7 : Nat) (sz : Nat) (v_recorded : Int32) (v_pad : (Nat → Int32)) (v_padLength : Int32) (v_at : Int32) (v_letter : Int32) (v_hasUnder : Int32) (v_numbersMany : Int32) (p1 : Int32) (r : Int32) (hd : den_X7_character v_pad v_padLength p1 = some r) : Met l yX7_character wsX7_character rmX7_character (va_Pc [.ref h0, .int p1] (preB sz (dC, dI) [(h0, .inr (7, [.ref h1, .ref h2, .int v_recorded, .ref h3, .ref h4, .ref h5, .int v_padLength, .ref h6, .int v_at, .int v_letter, .int v_hasUnder, .ref h7, .int v_numbersMany])), (h5, .inl (cI, 80, .inl v_pad))] [(cI, .int), (cC, .char), (cT, .object "CassetteTones$Tape")])) (va_Qi (S := Unit) (fun v _ => v = r) (fun _ t => posB (dC, dI) [(h0, .inr (7, [.ref h1, .ref h2, .int v_recorded, .ref h3, .ref h4, .ref h5, .int v_padLength, .ref h6, .int v_at, .int v_letter, .int v_hasUnder, .ref h7, .int v_numbersMany])), (h5, .inl (cI, 80, .inl v_pad))] [(cI, .int), (cC, .char), (cT, .object "CassetteTones$Tape")] (va_A [(h0, .inr (7, [.ref h1, .ref h2, .int v_recorded, .ref h3, .ref h4, .ref h5, .int v_padLength, .ref h6, .int v_at, .int v_letter, .int v_hasUnder, .ref h7, .int v_numbersMany])), (h5, .inl (cI, 80, .inl v_pad))] sz) t) (va_A [(h0, .inr (7, [.ref h1, .ref h2, .int v_recorded, .ref h3, .ref h4, .ref h5, .int v_padLength, .ref h6, .int v_at, .int v_letter, .int v_hasUnder, .ref h7, .int v_numbersMany])), (h5, .inl (cI, 80, .inl v_pad))] sz)) 0 0 (va_A [(h0, .inr (7, [.ref h1, .ref h2, .int v_recorded, .ref h3, .ref h4, .ref h5, .int v_padLength, .ref h6, .int v_at, .int v_letter, .int v_hasUnder, .ref h7, .int v_numbersMany])), (h5, .inl (cI, 80, .inl v_pad))] sz) := by
  refine x_met_i (by decide) rfl (Nat.le_of_ble_eq_true rfl) ?_
  intro p e s m args below meth c A Q H locs ls hx hb hml hown hts hK hN hA hP hD hS hl hend
  have hown : s.vm.findClass RX7 = some m.cls := hown
  have hl : lv_has ls 2 [(0, .ref h0), (1, .int p1)] := hl
  unfold den_X7_character at hd
  refine lv_iload_n hx hb dX7_character_0 rfl (lv_at hl 1 rfl) ?_
  refine lv_aload_n hx hb dX7_character_1 rfl (lv_at hl 0 rfl) ?_
  refine va_get (D := (dC, dI)) (ci := 7) (v := .int v_padLength) (C := RX7) (T := TX7) (N := 13) hx hb hts inX7_character_X7 hown hK hP 0 rfl rfl 6 (by decide) (hts _ kX7_character_1) (fun _ h9 => h9) rfl dX7_character_2 ?_
  refine lv_icmp_ge (tgt := 17) hx hb dX7_character_5 (by decide) (fun c1 => ?_) (fun c1 => ?_)
  · replace hd := ite_t c1 hd
    refine lv_iconst (v := -1) hx hb dX7_character_17 (by decide) ?_
    cases hd
    exact hend (by rfl) hP hD hS dX7_character_18
  · replace hd := ite_f c1 hd
    refine lv_aload_n hx hb dX7_character_8 rfl (lv_at hl 0 rfl) ?_
    refine va_get (D := (dC, dI)) (ci := 7) (v := .ref h5) (C := RX7) (T := TX7) (N := 13) hx hb hts inX7_character_X7 hown hK hP 0 rfl rfl 5 (by decide) (hts _ kX7_character_2) (fun _ h9 => h9) rfl dX7_character_9 ?_
    refine lv_iload_n hx hb dX7_character_12 rfl (lv_at hl 1 rfl) ?_
    obtain ⟨g2, hd⟩ := gd_some hd
    refine x_iald (k := p1.toNatClampNeg) hx hb hK hP 1 0 rfl rfl (inb_in g2) rfl dX7_character_13 ?_
    refine lv_goto (tgt := 18) hx hb dX7_character_14 (by decide) ?_
    cases hd
    exact hend (by rfl) hP hD hS dX7_character_18
def rmX7_isNext : Room := { frames := 1, cells := 0, slots := 0, locals := 21 }
theorem kX7_isNext_1 : (Cond.fieldLink RX7 177 "CassetteTonesModel" "at" "I") ∈ wsX7_isNext := List.mem_of_getElem? (i := 1) (by decide +kernel)
theorem inX7_isNext_X7 : ∀ w ∈ wsX70, w ∈ wsX7_isNext := by decide +kernel
theorem hp_X7_isNext : yX7_isNext.cls ≠ "java/lang/invoke/MethodHandle" ∧ yX7_isNext.cls ≠ "java/lang/invoke/VarHandle" ∧ (parseMethodDescriptor yX7_isNext.desc).map (fun d => d.parameters.length) = some 1 := by decide +kernel
theorem hv_X7_isNext : yX7_isNext.cls = RX7 ∧ yX7_isNext.cls ≠ "java/lang/invoke/MethodHandle" ∧ yX7_isNext.cls ≠ "java/lang/invoke/VarHandle" ∧ (parseMethodDescriptor yX7_isNext.desc).map (fun d => d.parameters.length) = some 1 := by decide +kernel
set_option maxHeartbeats 4000000 in
set_option maxRecDepth 100000 in
theorem c_X7_isNext (l : Launch) (dC : Nat → ClassId) (dI : Nat → Nat → Nat) (cI cC cT : ClassId) (h0 h1 h2 h3 h4 h5 h6 h7 : Nat) (sz : Nat) (v_recorded : Int32) (v_pad : (Nat → Int32)) (v_padLength : Int32) (v_at : Int32) (v_letter : Int32) (v_hasUnder : Int32) (v_numbersMany : Int32) (p1 : Int32) (r : (Int32 × Int32)) (hd : den_X7_isNext v_pad v_padLength v_at p1 = some r) : Met l yX7_isNext wsX7_isNext rmX7_isNext (va_Pc [.ref h0, .int p1] (preB sz (dC, dI) [(h0, .inr (7, [.ref h1, .ref h2, .int v_recorded, .ref h3, .ref h4, .ref h5, .int v_padLength, .ref h6, .int v_at, .int v_letter, .int v_hasUnder, .ref h7, .int v_numbersMany])), (h5, .inl (cI, 80, .inl v_pad))] [(cI, .int), (cC, .char), (cT, .object "CassetteTones$Tape")])) (va_Qi (S := Unit) (fun v _ => v = r.1) (fun _ t => posB (dC, dI) [(h0, .inr (7, [.ref h1, .ref h2, .int v_recorded, .ref h3, .ref h4, .ref h5, .int v_padLength, .ref h6, .int r.2, .int v_letter, .int v_hasUnder, .ref h7, .int v_numbersMany])), (h5, .inl (cI, 80, .inl v_pad))] [(cI, .int), (cC, .char), (cT, .object "CassetteTones$Tape")] (va_A [(h0, .inr (7, [.ref h1, .ref h2, .int v_recorded, .ref h3, .ref h4, .ref h5, .int v_padLength, .ref h6, .int v_at, .int v_letter, .int v_hasUnder, .ref h7, .int v_numbersMany])), (h5, .inl (cI, 80, .inl v_pad))] sz) t) (va_A [(h0, .inr (7, [.ref h1, .ref h2, .int v_recorded, .ref h3, .ref h4, .ref h5, .int v_padLength, .ref h6, .int v_at, .int v_letter, .int v_hasUnder, .ref h7, .int v_numbersMany])), (h5, .inl (cI, 80, .inl v_pad))] sz)) 0 0 (va_A [(h0, .inr (7, [.ref h1, .ref h2, .int v_recorded, .ref h3, .ref h4, .ref h5, .int v_padLength, .ref h6, .int v_at, .int v_letter, .int v_hasUnder, .ref h7, .int v_numbersMany])), (h5, .inl (cI, 80, .inl v_pad))] sz) := by
  refine x_met_z (by decide) rfl (Nat.le_of_ble_eq_true rfl) ?_
  intro p e s m args below meth c A Q H locs ls hx hb hml hown hts hK hN hA hP hD hS hl hend
  have hown : s.vm.findClass RX7 = some m.cls := hown
  have hl : lv_has ls 3 [(0, .ref h0), (1, .int p1)] := hl
  unfold den_X7_isNext at hd
  refine lv_aload_n hx hb dX7_isNext_0 rfl (lv_at hl 0 rfl) ?_
  refine lv_aload_n hx hb dX7_isNext_1 rfl (lv_at hl 0 rfl) ?_
  refine va_get (D := (dC, dI)) (ci := 7) (v := .int v_at) (C := RX7) (T := TX7) (N := 13) hx hb hts inX7_isNext_X7 hown hK hP 0 rfl rfl 8 (by decide) (hts _ kX7_isNext_1) (fun _ h9 => h9) rfl dX7_isNext_2 ?_
  obtain ⟨q1, hq1, hd⟩ := bnd_some hd
  have hPc : va_P (dC, dI) vwCl [(h0, .inr (7, [.ref h1, .ref h2, .int v_recorded, .ref h3, .ref h4, .ref h5, .int v_padLength, .ref h6, .int v_at, .int v_letter, .int v_hasUnder, .ref h7, .int v_numbersMany])), (h5, .inl (cI, 80, .inl v_pad))] _ := hP.sub [0, 1] rfl
  have hDc := hD.sub (ws' := [(h0, .inr (7, [.ref h1, .ref h2, .int v_recorded, .ref h3, .ref h4, .ref h5, .int v_padLength, .ref h6, .int v_at, .int v_letter, .int v_hasUnder, .ref h7, .int v_numbersMany])), (h5, .inl (cI, 80, .inl v_pad))]) [0, 1] (by decide) rfl
  have hFc := va_free (wc := [(h0, .inr (7, [.ref h1, .ref h2, .int v_recorded, .ref h3, .ref h4, .ref h5, .int v_padLength, .ref h6, .int v_at, .int v_letter, .int v_hasUnder, .ref h7, .int v_numbersMany])), (h5, .inl (cI, 80, .inl v_pad))]) hD hS hA [0, 1] rfl
  refine va_calli (va_runV (As := [.int v_at]) (rest := []) ⟨hx, hb, hml, hown, hts⟩ (c_X7_character l dC dI cI cC cT h0 h1 h2 h3 h4 h5 h6 h7 H.size v_recorded v_pad v_padLength v_at v_letter v_hasUnder v_numbersMany v_at q1 hq1) (cwV 1 hts gX7_isNext_X7_character rfl rfl rfl hv_X7_character ⟨Nat.le_of_ble_eq_true rfl, Nat.le_of_ble_eq_true rfl⟩) ⟨preB_fb, va_recv hK hPc (ci := 7) (q0 := 0) rfl rfl, fun U hU hW => preB_mk hU hW hPc hK hDc hN⟩ rfl rfl hl.1 rfl (lv_room (Nat.le_of_ble_eq_true rfl)) dX7_isNext_5 ⟨Nat.zero_le _, Nat.zero_le _⟩) hS (fun q _ h => hFc q h) hFc (fun r_ u_ t H locs ht hvm hw hB hz1 hk1 hS => ?_)
  have hw : r_ = q1 := hw
  have hw := hw.symm
  subst hw
  obtain ⟨hP, hD⟩ := x_join (ws' := [(h0, .inr (7, [.ref h1, .ref h2, .int v_recorded, .ref h3, .ref h4, .ref h5, .int v_padLength, .ref h6, .int v_at, .int v_letter, .int v_hasUnder, .ref h7, .int v_numbersMany])), (h5, .inl (cI, 80, .inl v_pad))]) hP hD [0, 1] [] rfl rfl (by decide) (by decide) hk1 hFc ht hB [0, 1] (by decide) rfl
  clear hPc hDc hFc hk1 hB ht hz1 hvm
  refine lv_iload_n hx hb dX7_isNext_8 rfl (lv_at hl 1 rfl) ?_
  obtain ⟨q2, hq2, hd⟩ := bnd_some hd
  have Kq2 : ∀ (H : Heap) (locs : List Loc) (ls : Array Slot), va_P (dC, dI) vwCl [(h0, .inr (7, [.ref h1, .ref h2, .int v_recorded, .ref h3, .ref h4, .ref h5, .int v_padLength, .ref h6, .int v_at, .int v_letter, .int v_hasUnder, .ref h7, .int v_numbersMany])), (h5, .inl (cI, 80, .inl v_pad))] H → va_D A [(h0, .inr (7, [.ref h1, .ref h2, .int v_recorded, .ref h3, .ref h4, .ref h5, .int v_padLength, .ref h6, .int v_at, .int v_letter, .int v_hasUnder, .ref h7, .int v_numbersMany])), (h5, .inl (cI, 80, .inl v_pad))] → va_S A s.heap H locs → lv_has ls 3 [(0, .ref h0)] → W p l e rmX7_isNext s m args below meth c H locs 0 0 Q (F0 m 17 ls [.int q2]) := by
    intro H locs ls hP hD hS hl
    refine lv_istore_n (lv' := [(2, .int q2), (0, .ref h0)]) hx hb dX7_isNext_17 rfl hl (by decide) rfl (fun ls hl => ?_)
    refine lv_aload_n hx hb dX7_isNext_18 rfl (lv_at hl 1 rfl) ?_
    refine lv_dup hx hb dX7_isNext_19 rfl ?_
    refine va_get (D := (dC, dI)) (ci := 7) (v := .int v_at) (C := RX7) (T := TX7) (N := 13) hx hb hts inX7_isNext_X7 hown hK hP 0 rfl rfl 8 (by decide) (hts _ kX7_isNext_1) (fun _ h9 => h9) rfl dX7_isNext_20 ?_
    refine lv_iload_n hx hb dX7_isNext_23 rfl (lv_at hl 0 rfl) ?_
    obtain ⟨q3, hq3, hd⟩ := bnd_some hd
    have Kq3 : ∀ (H : Heap) (locs : List Loc) (ls : Array Slot), va_P (dC, dI) vwCl [(h0, .inr (7, [.ref h1, .ref h2, .int v_recorded, .ref h3, .ref h4, .ref h5, .int v_padLength, .ref h6, .int v_at, .int v_letter, .int v_hasUnder, .ref h7, .int v_numbersMany])), (h5, .inl (cI, 80, .inl v_pad))] H → va_D A [(h0, .inr (7, [.ref h1, .ref h2, .int v_recorded, .ref h3, .ref h4, .ref h5, .int v_padLength, .ref h6, .int v_at, .int v_letter, .int v_hasUnder, .ref h7, .int v_numbersMany])), (h5, .inl (cI, 80, .inl v_pad))] → va_S A s.heap H locs → lv_has ls 3 [(2, .int q2)] → W p l e rmX7_isNext s m args below meth c H locs 0 0 Q (F0 m 32 ls [.int q3, .int v_at, .ref h0]) := by
      intro H locs ls hP hD hS hl
      refine lv_iadd hx hb dX7_isNext_32 ?_
      refine va_put (D := (dC, dI)) (ci := 7) (v := .int (v_at + q3)) (ty := .int) (C := RX7) (T := TX7) (N := 13) hx hb hts inX7_isNext_X7 tyX7 tyX7_ok nmX7 hown hK hP hD hS 0 rfl rfl 8 (by decide) (hts _ kX7_isNext_1) (fun _ h9 => h9) rfl (by decide +kernel) rfl rfl (Nat.le_of_ble_eq_true rfl) dX7_isNext_33 (fun H locs hP hD hS => ?_)
      have hP : va_P (dC, dI) vwCl [(h0, .inr (7, [.ref h1, .ref h2, .int v_recorded, .ref h3, .ref h4, .ref h5, .int v_padLength, .ref h6, .int (v_at + q3), .int v_letter, .int v_hasUnder, .ref h7, .int v_numbersMany])), (h5, .inl (cI, 80, .inl v_pad))] H := hP
      have hD : va_D A [(h0, .inr (7, [.ref h1, .ref h2, .int v_recorded, .ref h3, .ref h4, .ref h5, .int v_padLength, .ref h6, .int (v_at + q3), .int v_letter, .int v_hasUnder, .ref h7, .int v_numbersMany])), (h5, .inl (cI, 80, .inl v_pad))] := hD
      refine lv_iload_n hx hb dX7_isNext_36 rfl (lv_at hl 0 rfl) ?_
      obtain ⟨g4, hd⟩ := gd_some hd
      cases hd
      exact hend (by rfl) (z_nar g4) hP hD hS dX7_isNext_37
    replace hd := hq3
    clear hq3
    refine lv_if_eq (tgt := 31) hx hb dX7_isNext_24 (by decide) (fun c5 => ?_) (fun c5 => ?_)
    · replace hd := ite_t c5 hd
      refine lv_iconst (v := 0) hx hb dX7_isNext_31 (by decide) ?_
      cases hd
      exact Kq3 _ _ _ hP hD hS (lv_sub hl [0] rfl)
    · replace hd := ite_f c5 hd
      refine lv_iconst (v := 1) hx hb dX7_isNext_27 (by decide) ?_
      refine lv_goto (tgt := 32) hx hb dX7_isNext_28 (by decide) ?_
      cases hd
      exact Kq3 _ _ _ hP hD hS (lv_sub hl [0] rfl)
  replace hd := hq2
  clear hq2
  refine lv_icmp_ne (tgt := 16) hx hb dX7_isNext_9 (by decide) (fun c6 => ?_) (fun c6 => ?_)
  · replace hd := ite_f c6 hd
    refine lv_iconst (v := 0) hx hb dX7_isNext_16 (by decide) ?_
    cases hd
    exact Kq2 _ _ _ hP hD hS (lv_sub hl [0] rfl)
  · replace hd := ite_t c6 hd
    refine lv_iconst (v := 1) hx hb dX7_isNext_12 (by decide) ?_
    refine lv_goto (tgt := 17) hx hb dX7_isNext_13 (by decide) ?_
    cases hd
    exact Kq2 _ _ _ hP hD hS (lv_sub hl [0] rfl)
def rmX7_isDigit : Room := { frames := 1, cells := 0, slots := 0, locals := 22 }
theorem kX7_isDigit_1 : (Cond.fieldLink RX7 177 "CassetteTonesModel" "at" "I") ∈ wsX7_isDigit := List.mem_of_getElem? (i := 1) (by decide +kernel)
theorem inX7_isDigit_X7 : ∀ w ∈ wsX70, w ∈ wsX7_isDigit := by decide +kernel
theorem hp_X7_isDigit : yX7_isDigit.cls ≠ "java/lang/invoke/MethodHandle" ∧ yX7_isDigit.cls ≠ "java/lang/invoke/VarHandle" ∧ (parseMethodDescriptor yX7_isDigit.desc).map (fun d => d.parameters.length) = some 0 := by decide +kernel
theorem hv_X7_isDigit : yX7_isDigit.cls = RX7 ∧ yX7_isDigit.cls ≠ "java/lang/invoke/MethodHandle" ∧ yX7_isDigit.cls ≠ "java/lang/invoke/VarHandle" ∧ (parseMethodDescriptor yX7_isDigit.desc).map (fun d => d.parameters.length) = some 0 := by decide +kernel
set_option maxHeartbeats 4000000 in
set_option maxRecDepth 100000 in
theorem c_X7_isDigit (l : Launch) (dC : Nat → ClassId) (dI : Nat → Nat → Nat) (cI cC cT : ClassId) (h0 h1 h2 h3 h4 h5 h6 h7 : Nat) (sz : Nat) (v_recorded : Int32) (v_pad : (Nat → Int32)) (v_padLength : Int32) (v_at : Int32) (v_letter : Int32) (v_hasUnder : Int32) (v_numbersMany : Int32) (r : Int32) (hd : den_X7_isDigit v_pad v_padLength v_at = some r) : Met l yX7_isDigit wsX7_isDigit rmX7_isDigit (va_Pc [.ref h0] (preB sz (dC, dI) [(h0, .inr (7, [.ref h1, .ref h2, .int v_recorded, .ref h3, .ref h4, .ref h5, .int v_padLength, .ref h6, .int v_at, .int v_letter, .int v_hasUnder, .ref h7, .int v_numbersMany])), (h5, .inl (cI, 80, .inl v_pad))] [(cI, .int), (cC, .char), (cT, .object "CassetteTones$Tape")])) (va_Qi (S := Unit) (fun v _ => v = r) (fun _ t => posB (dC, dI) [(h0, .inr (7, [.ref h1, .ref h2, .int v_recorded, .ref h3, .ref h4, .ref h5, .int v_padLength, .ref h6, .int v_at, .int v_letter, .int v_hasUnder, .ref h7, .int v_numbersMany])), (h5, .inl (cI, 80, .inl v_pad))] [(cI, .int), (cC, .char), (cT, .object "CassetteTones$Tape")] (va_A [(h0, .inr (7, [.ref h1, .ref h2, .int v_recorded, .ref h3, .ref h4, .ref h5, .int v_padLength, .ref h6, .int v_at, .int v_letter, .int v_hasUnder, .ref h7, .int v_numbersMany])), (h5, .inl (cI, 80, .inl v_pad))] sz) t) (va_A [(h0, .inr (7, [.ref h1, .ref h2, .int v_recorded, .ref h3, .ref h4, .ref h5, .int v_padLength, .ref h6, .int v_at, .int v_letter, .int v_hasUnder, .ref h7, .int v_numbersMany])), (h5, .inl (cI, 80, .inl v_pad))] sz)) 0 0 (va_A [(h0, .inr (7, [.ref h1, .ref h2, .int v_recorded, .ref h3, .ref h4, .ref h5, .int v_padLength, .ref h6, .int v_at, .int v_letter, .int v_hasUnder, .ref h7, .int v_numbersMany])), (h5, .inl (cI, 80, .inl v_pad))] sz) := by
  refine x_met_z (by decide) rfl (Nat.le_of_ble_eq_true rfl) ?_
  intro p e s m args below meth c A Q H locs ls hx hb hml hown hts hK hN hA hP hD hS hl hend
  have hown : s.vm.findClass RX7 = some m.cls := hown
  have hl : lv_has ls 1 [(0, .ref h0)] := hl
  unfold den_X7_isDigit at hd
  refine lv_aload_n hx hb dX7_isDigit_0 rfl (lv_at hl 0 rfl) ?_
  refine lv_aload_n hx hb dX7_isDigit_1 rfl (lv_at hl 0 rfl) ?_
  refine va_get (D := (dC, dI)) (ci := 7) (v := .int v_at) (C := RX7) (T := TX7) (N := 13) hx hb hts inX7_isDigit_X7 hown hK hP 0 rfl rfl 8 (by decide) (hts _ kX7_isDigit_1) (fun _ h9 => h9) rfl dX7_isDigit_2 ?_
  obtain ⟨q1, hq1, hd⟩ := bnd_some hd
  have hPc : va_P (dC, dI) vwCl [(h0, .inr (7, [.ref h1, .ref h2, .int v_recorded, .ref h3, .ref h4, .ref h5, .int v_padLength, .ref h6, .int v_at, .int v_letter, .int v_hasUnder, .ref h7, .int v_numbersMany])), (h5, .inl (cI, 80, .inl v_pad))] _ := hP.sub [0, 1] rfl
  have hDc := hD.sub (ws' := [(h0, .inr (7, [.ref h1, .ref h2, .int v_recorded, .ref h3, .ref h4, .ref h5, .int v_padLength, .ref h6, .int v_at, .int v_letter, .int v_hasUnder, .ref h7, .int v_numbersMany])), (h5, .inl (cI, 80, .inl v_pad))]) [0, 1] (by decide) rfl
  have hFc := va_free (wc := [(h0, .inr (7, [.ref h1, .ref h2, .int v_recorded, .ref h3, .ref h4, .ref h5, .int v_padLength, .ref h6, .int v_at, .int v_letter, .int v_hasUnder, .ref h7, .int v_numbersMany])), (h5, .inl (cI, 80, .inl v_pad))]) hD hS hA [0, 1] rfl
  refine va_calli (va_runV (As := [.int v_at]) (rest := []) ⟨hx, hb, hml, hown, hts⟩ (c_X7_character l dC dI cI cC cT h0 h1 h2 h3 h4 h5 h6 h7 H.size v_recorded v_pad v_padLength v_at v_letter v_hasUnder v_numbersMany v_at q1 hq1) (cwV 1 hts gX7_isDigit_X7_character rfl rfl rfl hv_X7_character ⟨Nat.le_of_ble_eq_true rfl, Nat.le_of_ble_eq_true rfl⟩) ⟨preB_fb, va_recv hK hPc (ci := 7) (q0 := 0) rfl rfl, fun U hU hW => preB_mk hU hW hPc hK hDc hN⟩ rfl rfl hl.1 rfl (lv_room (Nat.le_of_ble_eq_true rfl)) dX7_isDigit_5 ⟨Nat.zero_le _, Nat.zero_le _⟩) hS (fun q _ h => hFc q h) hFc (fun r_ u_ t H locs ht hvm hw hB hz1 hk1 hS => ?_)
  have hw : r_ = q1 := hw
  have hw := hw.symm
  subst hw
  obtain ⟨hP, hD⟩ := x_join (ws' := [(h0, .inr (7, [.ref h1, .ref h2, .int v_recorded, .ref h3, .ref h4, .ref h5, .int v_padLength, .ref h6, .int v_at, .int v_letter, .int v_hasUnder, .ref h7, .int v_numbersMany])), (h5, .inl (cI, 80, .inl v_pad))]) hP hD [0, 1] [] rfl rfl (by decide) (by decide) hk1 hFc ht hB [0, 1] (by decide) rfl
  clear hPc hDc hFc hk1 hB ht hz1 hvm
  refine lv_bipush (v := 48) hx hb dX7_isDigit_8 (by decide) ?_
  refine lv_bipush (v := 57) hx hb dX7_isDigit_10 (by decide) ?_
  obtain ⟨q2, hq2, hd⟩ := bnd_some hd
  have hPc : va_P (dC, dI) vwCl [] _ := hP.sub [] rfl
  have hDc := hD.sub (ws' := []) [] (by decide) rfl
  have hFc := va_free (wc := []) hD hS hA [] rfl
  refine va_calli (va_runS (As := [.int q1, .int (48 : Int32), .int (57 : Int32)]) (rest := []) ⟨hx, hb, hml, hown, hts⟩ (c_X7_within l dC dI cI cC cT H.size q1 (48 : Int32) (57 : Int32) q2 hq2) (va_cwS 3 hts gX7_isDigit_X7_within rfl rfl rfl hp_X7_within ⟨Nat.le_of_ble_eq_true rfl, Nat.le_of_ble_eq_true rfl⟩) ⟨preB_fb, fun U hU hW => preB_mk hU hW hPc hK hDc hN⟩ rfl rfl hl.1 rfl (lv_room (Nat.le_of_ble_eq_true rfl)) dX7_isDigit_12 ⟨Nat.zero_le _, Nat.zero_le _⟩) hS (fun q _ h => hFc q h) hFc (fun r_ u_ t H locs ht hvm hw hB hz1 hk1 hS => ?_)
  have hw : r_ = q2 := hw
  have hw := hw.symm
  subst hw
  obtain ⟨hP, hD⟩ := x_join (ws' := [(h0, .inr (7, [.ref h1, .ref h2, .int v_recorded, .ref h3, .ref h4, .ref h5, .int v_padLength, .ref h6, .int v_at, .int v_letter, .int v_hasUnder, .ref h7, .int v_numbersMany])), (h5, .inl (cI, 80, .inl v_pad))]) hP hD [] [0, 1] rfl rfl (by decide) (by decide) hk1 hFc ht hB [0, 1] (by decide) rfl
  clear hPc hDc hFc hk1 hB ht hz1 hvm
  obtain ⟨g3, hd⟩ := gd_some hd
  cases hd
  exact hend (by rfl) (z_nar g3) hP hD hS dX7_isDigit_15
def rmX7_takesNumber : Room := { frames := 2, cells := 0, slots := 0, locals := 42 }
theorem kX7_takesNumber_1 : (Cond.fieldLink RX7 177 "CassetteTonesModel" "at" "I") ∈ wsX7_takesNumber := List.mem_of_getElem? (i := 1) (by decide +kernel)
theorem kX7_takesNumber_2 : (Cond.fieldLink RX7 28 "CassetteTonesModel" "numbers" "[I") ∈ wsX7_takesNumber := List.mem_of_getElem? (i := 2) (by decide +kernel)
theorem kX7_takesNumber_3 : (Cond.fieldLink RX7 187 "CassetteTonesModel" "numbersMany" "I") ∈ wsX7_takesNumber := List.mem_of_getElem? (i := 3) (by decide +kernel)
theorem inX7_takesNumber_X7 : ∀ w ∈ wsX70, w ∈ wsX7_takesNumber := by decide +kernel
theorem hp_X7_takesNumber : yX7_takesNumber.cls ≠ "java/lang/invoke/MethodHandle" ∧ yX7_takesNumber.cls ≠ "java/lang/invoke/VarHandle" ∧ (parseMethodDescriptor yX7_takesNumber.desc).map (fun d => d.parameters.length) = some 0 := by decide +kernel
theorem hv_X7_takesNumber : yX7_takesNumber.cls = RX7 ∧ yX7_takesNumber.cls ≠ "java/lang/invoke/MethodHandle" ∧ yX7_takesNumber.cls ≠ "java/lang/invoke/VarHandle" ∧ (parseMethodDescriptor yX7_takesNumber.desc).map (fun d => d.parameters.length) = some 0 := by decide +kernel
set_option maxHeartbeats 4000000 in
set_option maxRecDepth 100000 in
theorem c_X7_takesNumber (l : Launch) (dC : Nat → ClassId) (dI : Nat → Nat → Nat) (cI cC cT : ClassId) (h0 h1 h2 h3 h4 h5 h6 h7 : Nat) (sz : Nat) (v_recorded : Int32) (v_pad : (Nat → Int32)) (v_padLength : Int32) (v_at : Int32) (v_letter : Int32) (v_hasUnder : Int32) (v_numbers : (Nat → Int32)) (v_numbersMany : Int32) (r : (Int32 × Int32 × (Nat → Int32) × Int32)) (hd : den_X7_takesNumber v_pad v_padLength v_at v_numbers v_numbersMany = some r) : Met l yX7_takesNumber wsX7_takesNumber rmX7_takesNumber (va_Pc [.ref h0] (preB sz (dC, dI) [(h0, .inr (7, [.ref h1, .ref h2, .int v_recorded, .ref h3, .ref h4, .ref h5, .int v_padLength, .ref h6, .int v_at, .int v_letter, .int v_hasUnder, .ref h7, .int v_numbersMany])), (h5, .inl (cI, 80, .inl v_pad)), (h7, .inl (cI, 44, .inl v_numbers))] [(cI, .int), (cC, .char), (cT, .object "CassetteTones$Tape")])) (va_Qi (S := Unit) (fun v _ => v = r.1) (fun _ t => posB (dC, dI) [(h0, .inr (7, [.ref h1, .ref h2, .int v_recorded, .ref h3, .ref h4, .ref h5, .int v_padLength, .ref h6, .int r.2.1, .int v_letter, .int v_hasUnder, .ref h7, .int r.2.2.2])), (h5, .inl (cI, 80, .inl v_pad)), (h7, .inl (cI, 44, .inl r.2.2.1))] [(cI, .int), (cC, .char), (cT, .object "CassetteTones$Tape")] (va_A [(h0, .inr (7, [.ref h1, .ref h2, .int v_recorded, .ref h3, .ref h4, .ref h5, .int v_padLength, .ref h6, .int v_at, .int v_letter, .int v_hasUnder, .ref h7, .int v_numbersMany])), (h5, .inl (cI, 80, .inl v_pad)), (h7, .inl (cI, 44, .inl v_numbers))] sz) t) (va_A [(h0, .inr (7, [.ref h1, .ref h2, .int v_recorded, .ref h3, .ref h4, .ref h5, .int v_padLength, .ref h6, .int v_at, .int v_letter, .int v_hasUnder, .ref h7, .int v_numbersMany])), (h5, .inl (cI, 80, .inl v_pad)), (h7, .inl (cI, 44, .inl v_numbers))] sz)) 0 0 (va_A [(h0, .inr (7, [.ref h1, .ref h2, .int v_recorded, .ref h3, .ref h4, .ref h5, .int v_padLength, .ref h6, .int v_at, .int v_letter, .int v_hasUnder, .ref h7, .int v_numbersMany])), (h5, .inl (cI, 80, .inl v_pad)), (h7, .inl (cI, 44, .inl v_numbers))] sz) := by
  refine x_met_z (by decide) rfl (Nat.le_of_ble_eq_true rfl) ?_
  intro p e s m args below meth c A Q H locs ls hx hb hml hown hts hK hN hA hP hD hS hl hend
  have hown : s.vm.findClass RX7 = some m.cls := hown
  have hl : lv_has ls 2 [(0, .ref h0)] := hl
  unfold den_X7_takesNumber at hd
  refine lv_aload_n hx hb dX7_takesNumber_0 rfl (lv_at hl 0 rfl) ?_
  obtain ⟨q1, hq1, hd⟩ := bnd_some hd
  have hPc : va_P (dC, dI) vwCl [(h0, .inr (7, [.ref h1, .ref h2, .int v_recorded, .ref h3, .ref h4, .ref h5, .int v_padLength, .ref h6, .int v_at, .int v_letter, .int v_hasUnder, .ref h7, .int v_numbersMany])), (h5, .inl (cI, 80, .inl v_pad))] _ := hP.sub [0, 1] rfl
  have hDc := hD.sub (ws' := [(h0, .inr (7, [.ref h1, .ref h2, .int v_recorded, .ref h3, .ref h4, .ref h5, .int v_padLength, .ref h6, .int v_at, .int v_letter, .int v_hasUnder, .ref h7, .int v_numbersMany])), (h5, .inl (cI, 80, .inl v_pad))]) [0, 1] (by decide) rfl
  have hFc := va_free (wc := [(h0, .inr (7, [.ref h1, .ref h2, .int v_recorded, .ref h3, .ref h4, .ref h5, .int v_padLength, .ref h6, .int v_at, .int v_letter, .int v_hasUnder, .ref h7, .int v_numbersMany])), (h5, .inl (cI, 80, .inl v_pad))]) hD hS hA [0, 1] rfl
  refine va_calli (va_runV (As := []) (rest := []) ⟨hx, hb, hml, hown, hts⟩ (c_X7_isDigit l dC dI cI cC cT h0 h1 h2 h3 h4 h5 h6 h7 H.size v_recorded v_pad v_padLength v_at v_letter v_hasUnder v_numbersMany q1 hq1) (cwV 0 hts gX7_takesNumber_X7_isDigit rfl rfl rfl hv_X7_isDigit ⟨Nat.le_of_ble_eq_true rfl, Nat.le_of_ble_eq_true rfl⟩) ⟨preB_fb, va_recv hK hPc (ci := 7) (q0 := 0) rfl rfl, fun U hU hW => preB_mk hU hW hPc hK hDc hN⟩ rfl rfl hl.1 rfl (lv_room (Nat.le_of_ble_eq_true rfl)) dX7_takesNumber_1 ⟨Nat.zero_le _, Nat.zero_le _⟩) hS (fun q _ h => hFc q h) hFc (fun r_ u_ t H locs ht hvm hw hB hz1 hk1 hS => ?_)
  have hw : r_ = q1 := hw
  have hw := hw.symm
  subst hw
  obtain ⟨hP, hD⟩ := x_join (ws' := [(h0, .inr (7, [.ref h1, .ref h2, .int v_recorded, .ref h3, .ref h4, .ref h5, .int v_padLength, .ref h6, .int v_at, .int v_letter, .int v_hasUnder, .ref h7, .int v_numbersMany])), (h5, .inl (cI, 80, .inl v_pad)), (h7, .inl (cI, 44, .inl v_numbers))]) hP hD [0, 1] [2] rfl rfl (by decide) (by decide) hk1 hFc ht hB [1, 2, 0] (by decide) rfl
  clear hPc hDc hFc hk1 hB ht hz1 hvm
  refine lv_if_ne (tgt := 9) hx hb dX7_takesNumber_4 (by decide) (fun c2 => ?_) (fun c2 => ?_)
  · replace hd := ite_f c2 hd
    refine lv_aload_n hx hb dX7_takesNumber_9 rfl (lv_at hl 0 rfl) ?_
    refine lv_aload_n hx hb dX7_takesNumber_10 rfl (lv_at hl 0 rfl) ?_
    refine va_get (D := (dC, dI)) (ci := 7) (v := .int v_at) (C := RX7) (T := TX7) (N := 13) hx hb hts inX7_takesNumber_X7 hown hK hP 0 rfl rfl 8 (by decide) (hts _ kX7_takesNumber_1) (fun _ h9 => h9) rfl dX7_takesNumber_11 ?_
    obtain ⟨q3, hq3, hd⟩ := bnd_some hd
    have hPc : va_P (dC, dI) vwCl [(h0, .inr (7, [.ref h1, .ref h2, .int v_recorded, .ref h3, .ref h4, .ref h5, .int v_padLength, .ref h6, .int v_at, .int v_letter, .int v_hasUnder, .ref h7, .int v_numbersMany])), (h5, .inl (cI, 80, .inl v_pad))] _ := hP.sub [0, 1] rfl
    have hDc := hD.sub (ws' := [(h0, .inr (7, [.ref h1, .ref h2, .int v_recorded, .ref h3, .ref h4, .ref h5, .int v_padLength, .ref h6, .int v_at, .int v_letter, .int v_hasUnder, .ref h7, .int v_numbersMany])), (h5, .inl (cI, 80, .inl v_pad))]) [0, 1] (by decide) rfl
    have hFc := va_free (wc := [(h0, .inr (7, [.ref h1, .ref h2, .int v_recorded, .ref h3, .ref h4, .ref h5, .int v_padLength, .ref h6, .int v_at, .int v_letter, .int v_hasUnder, .ref h7, .int v_numbersMany])), (h5, .inl (cI, 80, .inl v_pad))]) hD hS hA [0, 1] rfl
    refine va_calli (va_runV (As := [.int v_at]) (rest := []) ⟨hx, hb, hml, hown, hts⟩ (c_X7_character l dC dI cI cC cT h0 h1 h2 h3 h4 h5 h6 h7 H.size v_recorded v_pad v_padLength v_at v_letter v_hasUnder v_numbersMany v_at q3 hq3) (cwV 1 hts gX7_takesNumber_X7_character rfl rfl rfl hv_X7_character ⟨Nat.le_of_ble_eq_true rfl, Nat.le_of_ble_eq_true rfl⟩) ⟨preB_fb, va_recv hK hPc (ci := 7) (q0 := 0) rfl rfl, fun U hU hW => preB_mk hU hW hPc hK hDc hN⟩ rfl rfl hl.1 rfl (lv_room (Nat.le_of_ble_eq_true rfl)) dX7_takesNumber_14 ⟨Nat.zero_le _, Nat.zero_le _⟩) hS (fun q _ h => hFc q h) hFc (fun r_ u_ t H locs ht hvm hw hB hz1 hk1 hS => ?_)
    have hw : r_ = q3 := hw
    have hw := hw.symm
    subst hw
    obtain ⟨hP, hD⟩ := x_join (ws' := [(h0, .inr (7, [.ref h1, .ref h2, .int v_recorded, .ref h3, .ref h4, .ref h5, .int v_padLength, .ref h6, .int v_at, .int v_letter, .int v_hasUnder, .ref h7, .int v_numbersMany])), (h5, .inl (cI, 80, .inl v_pad)), (h7, .inl (cI, 44, .inl v_numbers))]) hP hD [0, 1] [2] rfl rfl (by decide) (by decide) hk1 hFc ht hB [1, 2, 0] (by decide) rfl
    clear hPc hDc hFc hk1 hB ht hz1 hvm
    refine lv_bipush (v := 48) hx hb dX7_takesNumber_17 (by decide) ?_
    refine lv_isub hx hb dX7_takesNumber_19 ?_
    refine lv_istore_n (lv' := [(1, .int (q3 - (48 : Int32))), (0, .ref h0)]) hx hb dX7_takesNumber_20 rfl hl (by decide) rfl (fun ls hl => ?_)
    refine lv_aload_n hx hb dX7_takesNumber_21 rfl (lv_at hl 1 rfl) ?_
    refine lv_dup hx hb dX7_takesNumber_22 rfl ?_
    refine va_get (D := (dC, dI)) (ci := 7) (v := .int v_at) (C := RX7) (T := TX7) (N := 13) hx hb hts inX7_takesNumber_X7 hown hK hP 0 rfl rfl 8 (by decide) (hts _ kX7_takesNumber_1) (fun _ h9 => h9) rfl dX7_takesNumber_23 ?_
    refine lv_iconst (v := 1) hx hb dX7_takesNumber_26 (by decide) ?_
    refine lv_iadd hx hb dX7_takesNumber_27 ?_
    refine va_put (D := (dC, dI)) (ci := 7) (v := .int (v_at + (1 : Int32))) (ty := .int) (C := RX7) (T := TX7) (N := 13) hx hb hts inX7_takesNumber_X7 tyX7 tyX7_ok nmX7 hown hK hP hD hS 0 rfl rfl 8 (by decide) (hts _ kX7_takesNumber_1) (fun _ h9 => h9) rfl (by decide +kernel) rfl rfl (Nat.le_of_ble_eq_true rfl) dX7_takesNumber_28 (fun H locs hP hD hS => ?_)
    have hP : va_P (dC, dI) vwCl [(h0, .inr (7, [.ref h1, .ref h2, .int v_recorded, .ref h3, .ref h4, .ref h5, .int v_padLength, .ref h6, .int (v_at + (1 : Int32)), .int v_letter, .int v_hasUnder, .ref h7, .int v_numbersMany])), (h5, .inl (cI, 80, .inl v_pad)), (h7, .inl (cI, 44, .inl v_numbers))] H := hP
    have hD : va_D A [(h0, .inr (7, [.ref h1, .ref h2, .int v_recorded, .ref h3, .ref h4, .ref h5, .int v_padLength, .ref h6, .int (v_at + (1 : Int32)), .int v_letter, .int v_hasUnder, .ref h7, .int v_numbersMany])), (h5, .inl (cI, 80, .inl v_pad)), (h7, .inl (cI, 44, .inl v_numbers))] := hD
    obtain ⟨q4, hq4, hd⟩ := bnd_some hd
    have Kq4 : ∀ (H : Heap) (locs : List Loc) (ls : Array Slot), va_P (dC, dI) vwCl [(h0, .inr (7, [.ref h1, .ref h2, .int v_recorded, .ref h3, .ref h4, .ref h5, .int v_padLength, .ref h6, .int q4.2, .int v_letter, .int v_hasUnder, .ref h7, .int v_numbersMany])), (h5, .inl (cI, 80, .inl v_pad)), (h7, .inl (cI, 44, .inl v_numbers))] H → va_D A [(h0, .inr (7, [.ref h1, .ref h2, .int v_recorded, .ref h3, .ref h4, .ref h5, .int v_padLength, .ref h6, .int q4.2, .int v_letter, .int v_hasUnder, .ref h7, .int v_numbersMany])), (h5, .inl (cI, 80, .inl v_pad)), (h7, .inl (cI, 44, .inl v_numbers))] → va_S A s.heap H locs → lv_has ls 2 [(0, .ref h0), (1, .int q4.1)] → W p l e rmX7_takesNumber s m args below meth c H locs 0 0 Q (F0 m 79 ls []) := by
      intro H locs ls hP hD hS hl
      refine lv_aload_n hx hb dX7_takesNumber_79 rfl (lv_at hl 0 rfl) ?_
      refine va_get (D := (dC, dI)) (ci := 7) (v := .ref h7) (C := RX7) (T := TX7) (N := 13) hx hb hts inX7_takesNumber_X7 hown hK hP 0 rfl rfl 11 (by decide) (hts _ kX7_takesNumber_2) (fun _ h9 => h9) rfl dX7_takesNumber_80 ?_
      refine lv_aload_n hx hb dX7_takesNumber_83 rfl (lv_at hl 0 rfl) ?_
      refine va_get (D := (dC, dI)) (ci := 7) (v := .int v_numbersMany) (C := RX7) (T := TX7) (N := 13) hx hb hts inX7_takesNumber_X7 hown hK hP 0 rfl rfl 12 (by decide) (hts _ kX7_takesNumber_3) (fun _ h9 => h9) rfl dX7_takesNumber_84 ?_
      refine lv_iload_n hx hb dX7_takesNumber_87 rfl (lv_at hl 1 rfl) ?_
      obtain ⟨g5, hd⟩ := gd_some hd
      refine x_iast (k := v_numbersMany.toNatClampNeg) hx hb hK hP hD hS 2 0 rfl rfl (inb_in g5) rfl dX7_takesNumber_88 (fun H locs hP hD hS => ?_)
      have hP : va_P (dC, dI) vwCl [(h0, .inr (7, [.ref h1, .ref h2, .int v_recorded, .ref h3, .ref h4, .ref h5, .int v_padLength, .ref h6, .int q4.2, .int v_letter, .int v_hasUnder, .ref h7, .int v_numbersMany])), (h5, .inl (cI, 80, .inl v_pad)), (h7, .inl (cI, 44, .inl (upd v_numbers v_numbersMany.toNatClampNeg q4.1)))] H := hP
      have hD : va_D A [(h0, .inr (7, [.ref h1, .ref h2, .int v_recorded, .ref h3, .ref h4, .ref h5, .int v_padLength, .ref h6, .int q4.2, .int v_letter, .int v_hasUnder, .ref h7, .int v_numbersMany])), (h5, .inl (cI, 80, .inl v_pad)), (h7, .inl (cI, 44, .inl (upd v_numbers v_numbersMany.toNatClampNeg q4.1)))] := hD
      refine lv_aload_n hx hb dX7_takesNumber_89 rfl (lv_at hl 0 rfl) ?_
      refine lv_dup hx hb dX7_takesNumber_90 rfl ?_
      refine va_get (D := (dC, dI)) (ci := 7) (v := .int v_numbersMany) (C := RX7) (T := TX7) (N := 13) hx hb hts inX7_takesNumber_X7 hown hK hP 0 rfl rfl 12 (by decide) (hts _ kX7_takesNumber_3) (fun _ h9 => h9) rfl dX7_takesNumber_91 ?_
      refine lv_iconst (v := 1) hx hb dX7_takesNumber_94 (by decide) ?_
      refine lv_iadd hx hb dX7_takesNumber_95 ?_
      refine va_put (D := (dC, dI)) (ci := 7) (v := .int (v_numbersMany + (1 : Int32))) (ty := .int) (C := RX7) (T := TX7) (N := 13) hx hb hts inX7_takesNumber_X7 tyX7 tyX7_ok nmX7 hown hK hP hD hS 0 rfl rfl 12 (by decide) (hts _ kX7_takesNumber_3) (fun _ h9 => h9) rfl (by decide +kernel) rfl rfl (Nat.le_of_ble_eq_true rfl) dX7_takesNumber_96 (fun H locs hP hD hS => ?_)
      have hP : va_P (dC, dI) vwCl [(h0, .inr (7, [.ref h1, .ref h2, .int v_recorded, .ref h3, .ref h4, .ref h5, .int v_padLength, .ref h6, .int q4.2, .int v_letter, .int v_hasUnder, .ref h7, .int (v_numbersMany + (1 : Int32))])), (h5, .inl (cI, 80, .inl v_pad)), (h7, .inl (cI, 44, .inl (upd v_numbers v_numbersMany.toNatClampNeg q4.1)))] H := hP
      have hD : va_D A [(h0, .inr (7, [.ref h1, .ref h2, .int v_recorded, .ref h3, .ref h4, .ref h5, .int v_padLength, .ref h6, .int q4.2, .int v_letter, .int v_hasUnder, .ref h7, .int (v_numbersMany + (1 : Int32))])), (h5, .inl (cI, 80, .inl v_pad)), (h7, .inl (cI, 44, .inl (upd v_numbers v_numbersMany.toNatClampNeg q4.1)))] := hD
      refine lv_iconst (v := 1) hx hb dX7_takesNumber_99 (by decide) ?_
      cases hd
      exact hend (by rfl) (by rfl) hP hD hS dX7_takesNumber_100
    clear hd
    have KL12 : ∀ (fu : Nat) (y1_31 : Int32) (v_at_31 : Int32) (hd : den_X7_takesNumber_L31 v_pad v_padLength fu y1_31 v_at_31 = some q4) (H : Heap) (locs : List Loc) (ls : Array Slot), va_P (dC, dI) vwCl [(h0, .inr (7, [.ref h1, .ref h2, .int v_recorded, .ref h3, .ref h4, .ref h5, .int v_padLength, .ref h6, .int v_at_31, .int v_letter, .int v_hasUnder, .ref h7, .int v_numbersMany])), (h5, .inl (cI, 80, .inl v_pad)), (h7, .inl (cI, 44, .inl v_numbers))] H → va_D A [(h0, .inr (7, [.ref h1, .ref h2, .int v_recorded, .ref h3, .ref h4, .ref h5, .int v_padLength, .ref h6, .int v_at_31, .int v_letter, .int v_hasUnder, .ref h7, .int v_numbersMany])), (h5, .inl (cI, 80, .inl v_pad)), (h7, .inl (cI, 44, .inl v_numbers))] → va_S A s.heap H locs → lv_has ls 2 [(0, .ref h0), (1, .int y1_31)] → W p l e rmX7_takesNumber s m args below meth c H locs 0 0 Q (F0 m 31 ls []) := by
      intro fu
      induction fu with
      | zero => intro y1_31 v_at_31 hd; exact no_some hd
      | succ fu ih =>
        intro y1_31 v_at_31 hd H locs ls hP hD hS hl
        rw [den_X7_takesNumber_L31] at hd
        refine lv_iload_n hx hb dX7_takesNumber_31 rfl (lv_at hl 1 rfl) ?_
        refine lv_if_le (tgt := 79) hx hb dX7_takesNumber_32 (by decide) (fun c6 => ?_) (fun c6 => ?_)
        · replace hd := ite_t c6 hd
          cases hd
          exact Kq4 _ _ _ hP hD hS (lv_sub hl [0, 1] rfl)
        · replace hd := ite_f c6 hd
          refine lv_iload_n hx hb dX7_takesNumber_35 rfl (lv_at hl 1 rfl) ?_
          refine lv_sipush (v := 1000) hx hb dX7_takesNumber_36 (by decide) ?_
          refine lv_icmp_ge (tgt := 79) hx hb dX7_takesNumber_39 (by decide) (fun c7 => ?_) (fun c7 => ?_)
          · replace hd := ite_t c7 hd
            cases hd
            exact Kq4 _ _ _ hP hD hS (lv_sub hl [0, 1] rfl)
          · replace hd := ite_f c7 hd
            refine lv_aload_n hx hb dX7_takesNumber_42 rfl (lv_at hl 0 rfl) ?_
            obtain ⟨q8, hq8, hd⟩ := bnd_some hd
            have hPc : va_P (dC, dI) vwCl [(h0, .inr (7, [.ref h1, .ref h2, .int v_recorded, .ref h3, .ref h4, .ref h5, .int v_padLength, .ref h6, .int v_at_31, .int v_letter, .int v_hasUnder, .ref h7, .int v_numbersMany])), (h5, .inl (cI, 80, .inl v_pad))] _ := hP.sub [0, 1] rfl
            have hDc := hD.sub (ws' := [(h0, .inr (7, [.ref h1, .ref h2, .int v_recorded, .ref h3, .ref h4, .ref h5, .int v_padLength, .ref h6, .int v_at_31, .int v_letter, .int v_hasUnder, .ref h7, .int v_numbersMany])), (h5, .inl (cI, 80, .inl v_pad))]) [0, 1] (by decide) rfl
            have hFc := va_free (wc := [(h0, .inr (7, [.ref h1, .ref h2, .int v_recorded, .ref h3, .ref h4, .ref h5, .int v_padLength, .ref h6, .int v_at_31, .int v_letter, .int v_hasUnder, .ref h7, .int v_numbersMany])), (h5, .inl (cI, 80, .inl v_pad))]) hD hS hA [0, 1] rfl
            refine va_calli (va_runV (As := []) (rest := []) ⟨hx, hb, hml, hown, hts⟩ (c_X7_isDigit l dC dI cI cC cT h0 h1 h2 h3 h4 h5 h6 h7 H.size v_recorded v_pad v_padLength v_at_31 v_letter v_hasUnder v_numbersMany q8 hq8) (cwV 0 hts gX7_takesNumber_X7_isDigit rfl rfl rfl hv_X7_isDigit ⟨Nat.le_of_ble_eq_true rfl, Nat.le_of_ble_eq_true rfl⟩) ⟨preB_fb, va_recv hK hPc (ci := 7) (q0 := 0) rfl rfl, fun U hU hW => preB_mk hU hW hPc hK hDc hN⟩ rfl rfl hl.1 rfl (lv_room (Nat.le_of_ble_eq_true rfl)) dX7_takesNumber_43 ⟨Nat.zero_le _, Nat.zero_le _⟩) hS (fun q _ h => hFc q h) hFc (fun r_ u_ t H locs ht hvm hw hB hz1 hk1 hS => ?_)
            have hw : r_ = q8 := hw
            have hw := hw.symm
            subst hw
            obtain ⟨hP, hD⟩ := x_join (ws' := [(h0, .inr (7, [.ref h1, .ref h2, .int v_recorded, .ref h3, .ref h4, .ref h5, .int v_padLength, .ref h6, .int v_at_31, .int v_letter, .int v_hasUnder, .ref h7, .int v_numbersMany])), (h5, .inl (cI, 80, .inl v_pad)), (h7, .inl (cI, 44, .inl v_numbers))]) hP hD [0, 1] [2] rfl rfl (by decide) (by decide) hk1 hFc ht hB [1, 2, 0] (by decide) rfl
            clear hPc hDc hFc hk1 hB ht hz1 hvm
            refine lv_if_eq (tgt := 79) hx hb dX7_takesNumber_46 (by decide) (fun c9 => ?_) (fun c9 => ?_)
            · replace hd := ite_t c9 hd
              cases hd
              exact Kq4 _ _ _ hP hD hS (lv_sub hl [0, 1] rfl)
            · replace hd := ite_f c9 hd
              refine lv_bipush (v := 10) hx hb dX7_takesNumber_49 (by decide) ?_
              refine lv_iload_n hx hb dX7_takesNumber_51 rfl (lv_at hl 1 rfl) ?_
              refine lv_imul hx hb dX7_takesNumber_52 ?_
              refine lv_aload_n hx hb dX7_takesNumber_53 rfl (lv_at hl 0 rfl) ?_
              refine lv_aload_n hx hb dX7_takesNumber_54 rfl (lv_at hl 0 rfl) ?_
              refine va_get (D := (dC, dI)) (ci := 7) (v := .int v_at_31) (C := RX7) (T := TX7) (N := 13) hx hb hts inX7_takesNumber_X7 hown hK hP 0 rfl rfl 8 (by decide) (hts _ kX7_takesNumber_1) (fun _ h9 => h9) rfl dX7_takesNumber_55 ?_
              obtain ⟨q10, hq10, hd⟩ := bnd_some hd
              have hPc : va_P (dC, dI) vwCl [(h0, .inr (7, [.ref h1, .ref h2, .int v_recorded, .ref h3, .ref h4, .ref h5, .int v_padLength, .ref h6, .int v_at_31, .int v_letter, .int v_hasUnder, .ref h7, .int v_numbersMany])), (h5, .inl (cI, 80, .inl v_pad))] _ := hP.sub [0, 1] rfl
              have hDc := hD.sub (ws' := [(h0, .inr (7, [.ref h1, .ref h2, .int v_recorded, .ref h3, .ref h4, .ref h5, .int v_padLength, .ref h6, .int v_at_31, .int v_letter, .int v_hasUnder, .ref h7, .int v_numbersMany])), (h5, .inl (cI, 80, .inl v_pad))]) [0, 1] (by decide) rfl
              have hFc := va_free (wc := [(h0, .inr (7, [.ref h1, .ref h2, .int v_recorded, .ref h3, .ref h4, .ref h5, .int v_padLength, .ref h6, .int v_at_31, .int v_letter, .int v_hasUnder, .ref h7, .int v_numbersMany])), (h5, .inl (cI, 80, .inl v_pad))]) hD hS hA [0, 1] rfl
              refine va_calli (va_runV (As := [.int v_at_31]) (rest := [.int ((10 : Int32) * y1_31)]) ⟨hx, hb, hml, hown, hts⟩ (c_X7_character l dC dI cI cC cT h0 h1 h2 h3 h4 h5 h6 h7 H.size v_recorded v_pad v_padLength v_at_31 v_letter v_hasUnder v_numbersMany v_at_31 q10 hq10) (cwV 1 hts gX7_takesNumber_X7_character rfl rfl rfl hv_X7_character ⟨Nat.le_of_ble_eq_true rfl, Nat.le_of_ble_eq_true rfl⟩) ⟨preB_fb, va_recv hK hPc (ci := 7) (q0 := 0) rfl rfl, fun U hU hW => preB_mk hU hW hPc hK hDc hN⟩ rfl rfl hl.1 rfl (lv_room (Nat.le_of_ble_eq_true rfl)) dX7_takesNumber_58 ⟨Nat.zero_le _, Nat.zero_le _⟩) hS (fun q _ h => hFc q h) hFc (fun r_ u_ t H locs ht hvm hw hB hz1 hk1 hS => ?_)
              have hw : r_ = q10 := hw
              have hw := hw.symm
              subst hw
              obtain ⟨hP, hD⟩ := x_join (ws' := [(h0, .inr (7, [.ref h1, .ref h2, .int v_recorded, .ref h3, .ref h4, .ref h5, .int v_padLength, .ref h6, .int v_at_31, .int v_letter, .int v_hasUnder, .ref h7, .int v_numbersMany])), (h5, .inl (cI, 80, .inl v_pad)), (h7, .inl (cI, 44, .inl v_numbers))]) hP hD [0, 1] [2] rfl rfl (by decide) (by decide) hk1 hFc ht hB [1, 2, 0] (by decide) rfl
              clear hPc hDc hFc hk1 hB ht hz1 hvm
              refine lv_iadd hx hb dX7_takesNumber_61 ?_
              refine lv_bipush (v := 48) hx hb dX7_takesNumber_62 (by decide) ?_
              refine lv_isub hx hb dX7_takesNumber_64 ?_
              refine lv_topi (fun x11 ex11 => ?_)
              replace hd := nm_some ex11 hd
              refine lv_istore_n (lv' := [(1, .int x11), (0, .ref h0)]) hx hb dX7_takesNumber_65 rfl hl (by decide) rfl (fun ls hl => ?_)
              refine lv_aload_n hx hb dX7_takesNumber_66 rfl (lv_at hl 1 rfl) ?_
              refine lv_dup hx hb dX7_takesNumber_67 rfl ?_
              refine va_get (D := (dC, dI)) (ci := 7) (v := .int v_at_31) (C := RX7) (T := TX7) (N := 13) hx hb hts inX7_takesNumber_X7 hown hK hP 0 rfl rfl 8 (by decide) (hts _ kX7_takesNumber_1) (fun _ h9 => h9) rfl dX7_takesNumber_68 ?_
              refine lv_iconst (v := 1) hx hb dX7_takesNumber_71 (by decide) ?_
              refine lv_iadd hx hb dX7_takesNumber_72 ?_
              refine va_put (D := (dC, dI)) (ci := 7) (v := .int (v_at_31 + (1 : Int32))) (ty := .int) (C := RX7) (T := TX7) (N := 13) hx hb hts inX7_takesNumber_X7 tyX7 tyX7_ok nmX7 hown hK hP hD hS 0 rfl rfl 8 (by decide) (hts _ kX7_takesNumber_1) (fun _ h9 => h9) rfl (by decide +kernel) rfl rfl (Nat.le_of_ble_eq_true rfl) dX7_takesNumber_73 (fun H locs hP hD hS => ?_)
              have hP : va_P (dC, dI) vwCl [(h0, .inr (7, [.ref h1, .ref h2, .int v_recorded, .ref h3, .ref h4, .ref h5, .int v_padLength, .ref h6, .int (v_at_31 + (1 : Int32)), .int v_letter, .int v_hasUnder, .ref h7, .int v_numbersMany])), (h5, .inl (cI, 80, .inl v_pad)), (h7, .inl (cI, 44, .inl v_numbers))] H := hP
              have hD : va_D A [(h0, .inr (7, [.ref h1, .ref h2, .int v_recorded, .ref h3, .ref h4, .ref h5, .int v_padLength, .ref h6, .int (v_at_31 + (1 : Int32)), .int v_letter, .int v_hasUnder, .ref h7, .int v_numbersMany])), (h5, .inl (cI, 80, .inl v_pad)), (h7, .inl (cI, 44, .inl v_numbers))] := hD
              refine lv_goto (tgt := 31) hx hb dX7_takesNumber_76 (by decide) ?_
              exact ih x11 (v_at_31 + (1 : Int32)) hd _ _ _ hP hD hS (lv_sub hl [1, 0] rfl)
    exact KL12 FU (q3 - (48 : Int32)) (v_at + (1 : Int32)) hq4 _ _ _ hP hD hS (lv_sub hl [1, 0] rfl)
  · replace hd := ite_t c2 hd
    refine lv_iconst (v := 0) hx hb dX7_takesNumber_7 (by decide) ?_
    cases hd
    exact hend (by rfl) (by rfl) hP hD hS dX7_takesNumber_8
def rmX7_takesBytes : Room := { frames := 3, cells := 0, slots := 0, locals := 63 }
theorem hp_X7_takesBytes : yX7_takesBytes.cls ≠ "java/lang/invoke/MethodHandle" ∧ yX7_takesBytes.cls ≠ "java/lang/invoke/VarHandle" ∧ (parseMethodDescriptor yX7_takesBytes.desc).map (fun d => d.parameters.length) = some 0 := by decide +kernel
theorem hv_X7_takesBytes : yX7_takesBytes.cls = RX7 ∧ yX7_takesBytes.cls ≠ "java/lang/invoke/MethodHandle" ∧ yX7_takesBytes.cls ≠ "java/lang/invoke/VarHandle" ∧ (parseMethodDescriptor yX7_takesBytes.desc).map (fun d => d.parameters.length) = some 0 := by decide +kernel
set_option maxHeartbeats 4000000 in
set_option maxRecDepth 100000 in
theorem c_X7_takesBytes (l : Launch) (dC : Nat → ClassId) (dI : Nat → Nat → Nat) (cI cC cT : ClassId) (h0 h1 h2 h3 h4 h5 h6 h7 : Nat) (sz : Nat) (v_recorded : Int32) (v_pad : (Nat → Int32)) (v_padLength : Int32) (v_at : Int32) (v_letter : Int32) (v_hasUnder : Int32) (v_numbers : (Nat → Int32)) (v_numbersMany : Int32) (r : (Int32 × Int32 × (Nat → Int32) × Int32)) (hd : den_X7_takesBytes v_pad v_padLength v_at v_numbers v_numbersMany = some r) : Met l yX7_takesBytes wsX7_takesBytes rmX7_takesBytes (va_Pc [.ref h0] (preB sz (dC, dI) [(h0, .inr (7, [.ref h1, .ref h2, .int v_recorded, .ref h3, .ref h4, .ref h5, .int v_padLength, .ref h6, .int v_at, .int v_letter, .int v_hasUnder, .ref h7, .int v_numbersMany])), (h5, .inl (cI, 80, .inl v_pad)), (h7, .inl (cI, 44, .inl v_numbers))] [(cI, .int), (cC, .char), (cT, .object "CassetteTones$Tape")])) (va_Qi (S := Unit) (fun v _ => v = r.1) (fun _ t => posB (dC, dI) [(h0, .inr (7, [.ref h1, .ref h2, .int v_recorded, .ref h3, .ref h4, .ref h5, .int v_padLength, .ref h6, .int r.2.1, .int v_letter, .int v_hasUnder, .ref h7, .int r.2.2.2])), (h5, .inl (cI, 80, .inl v_pad)), (h7, .inl (cI, 44, .inl r.2.2.1))] [(cI, .int), (cC, .char), (cT, .object "CassetteTones$Tape")] (va_A [(h0, .inr (7, [.ref h1, .ref h2, .int v_recorded, .ref h3, .ref h4, .ref h5, .int v_padLength, .ref h6, .int v_at, .int v_letter, .int v_hasUnder, .ref h7, .int v_numbersMany])), (h5, .inl (cI, 80, .inl v_pad)), (h7, .inl (cI, 44, .inl v_numbers))] sz) t) (va_A [(h0, .inr (7, [.ref h1, .ref h2, .int v_recorded, .ref h3, .ref h4, .ref h5, .int v_padLength, .ref h6, .int v_at, .int v_letter, .int v_hasUnder, .ref h7, .int v_numbersMany])), (h5, .inl (cI, 80, .inl v_pad)), (h7, .inl (cI, 44, .inl v_numbers))] sz)) 0 0 (va_A [(h0, .inr (7, [.ref h1, .ref h2, .int v_recorded, .ref h3, .ref h4, .ref h5, .int v_padLength, .ref h6, .int v_at, .int v_letter, .int v_hasUnder, .ref h7, .int v_numbersMany])), (h5, .inl (cI, 80, .inl v_pad)), (h7, .inl (cI, 44, .inl v_numbers))] sz) := by
  refine x_met_z (by decide) rfl (Nat.le_of_ble_eq_true rfl) ?_
  intro p e s m args below meth c A Q H locs ls hx hb hml hown hts hK hN hA hP hD hS hl hend
  have hown : s.vm.findClass RX7 = some m.cls := hown
  have hl : lv_has ls 2 [(0, .ref h0)] := hl
  unfold den_X7_takesBytes at hd
  refine lv_aload_n hx hb dX7_takesBytes_0 rfl (lv_at hl 0 rfl) ?_
  obtain ⟨q1, hq1, hd⟩ := bnd_some hd
  have hPc : va_P (dC, dI) vwCl [(h0, .inr (7, [.ref h1, .ref h2, .int v_recorded, .ref h3, .ref h4, .ref h5, .int v_padLength, .ref h6, .int v_at, .int v_letter, .int v_hasUnder, .ref h7, .int v_numbersMany])), (h5, .inl (cI, 80, .inl v_pad)), (h7, .inl (cI, 44, .inl v_numbers))] _ := hP.sub [0, 1, 2] rfl
  have hDc := hD.sub (ws' := [(h0, .inr (7, [.ref h1, .ref h2, .int v_recorded, .ref h3, .ref h4, .ref h5, .int v_padLength, .ref h6, .int v_at, .int v_letter, .int v_hasUnder, .ref h7, .int v_numbersMany])), (h5, .inl (cI, 80, .inl v_pad)), (h7, .inl (cI, 44, .inl v_numbers))]) [0, 1, 2] (by decide) rfl
  have hFc := va_free (wc := [(h0, .inr (7, [.ref h1, .ref h2, .int v_recorded, .ref h3, .ref h4, .ref h5, .int v_padLength, .ref h6, .int v_at, .int v_letter, .int v_hasUnder, .ref h7, .int v_numbersMany])), (h5, .inl (cI, 80, .inl v_pad)), (h7, .inl (cI, 44, .inl v_numbers))]) hD hS hA [0, 1, 2] rfl
  refine va_calli (va_runV (As := []) (rest := []) ⟨hx, hb, hml, hown, hts⟩ (c_X7_takesNumber l dC dI cI cC cT h0 h1 h2 h3 h4 h5 h6 h7 H.size v_recorded v_pad v_padLength v_at v_letter v_hasUnder v_numbers v_numbersMany q1 hq1) (cwV 0 hts gX7_takesBytes_X7_takesNumber rfl rfl rfl hv_X7_takesNumber ⟨Nat.le_of_ble_eq_true rfl, Nat.le_of_ble_eq_true rfl⟩) ⟨preB_fb, va_recv hK hPc (ci := 7) (q0 := 0) rfl rfl, fun U hU hW => preB_mk hU hW hPc hK hDc hN⟩ rfl rfl hl.1 rfl (lv_room (Nat.le_of_ble_eq_true rfl)) dX7_takesBytes_1 ⟨Nat.zero_le _, Nat.zero_le _⟩) hS (fun q _ h => hFc q h) hFc (fun r_ u_ t H locs ht hvm hw hB hz1 hk1 hS => ?_)
  have hw : r_ = q1.1 := hw
  have hw := hw.symm
  subst hw
  obtain ⟨hP, hD⟩ := x_join (ws' := [(h0, .inr (7, [.ref h1, .ref h2, .int v_recorded, .ref h3, .ref h4, .ref h5, .int v_padLength, .ref h6, .int q1.2.1, .int v_letter, .int v_hasUnder, .ref h7, .int q1.2.2.2])), (h5, .inl (cI, 80, .inl v_pad)), (h7, .inl (cI, 44, .inl q1.2.2.1))]) hP hD [0, 1, 2] [] rfl rfl (by decide) (by decide) hk1 hFc ht hB [0, 1, 2] (by decide) rfl
  clear hPc hDc hFc hk1 hB ht hz1 hvm
  refine lv_istore_n (lv' := [(1, .int q1.1), (0, .ref h0)]) hx hb dX7_takesBytes_4 rfl hl (by decide) rfl (fun ls hl => ?_)
  obtain ⟨q2, hq2, hd⟩ := bnd_some hd
  have Kq2 : ∀ (H : Heap) (locs : List Loc) (ls : Array Slot), va_P (dC, dI) vwCl [(h0, .inr (7, [.ref h1, .ref h2, .int v_recorded, .ref h3, .ref h4, .ref h5, .int v_padLength, .ref h6, .int q2.2.1, .int v_letter, .int v_hasUnder, .ref h7, .int q2.2.2.2])), (h5, .inl (cI, 80, .inl v_pad)), (h7, .inl (cI, 44, .inl q2.2.2.1))] H → va_D A [(h0, .inr (7, [.ref h1, .ref h2, .int v_recorded, .ref h3, .ref h4, .ref h5, .int v_padLength, .ref h6, .int q2.2.1, .int v_letter, .int v_hasUnder, .ref h7, .int q2.2.2.2])), (h5, .inl (cI, 80, .inl v_pad)), (h7, .inl (cI, 44, .inl q2.2.2.1))] → va_S A s.heap H locs → lv_has ls 2 [(1, .int q2.1)] → W p l e rmX7_takesBytes s m args below meth c H locs 0 0 Q (F0 m 26 ls []) := by
    intro H locs ls hP hD hS hl
    refine lv_iload_n hx hb dX7_takesBytes_26 rfl (lv_at hl 0 rfl) ?_
    obtain ⟨g3, hd⟩ := gd_some hd
    cases hd
    exact hend (by rfl) (z_nar g3) hP hD hS dX7_takesBytes_27
  clear hd
  have KL8 : ∀ (fu : Nat) (y1_5 : Int32) (v_at_5 : Int32) (v_numbers_5 : (Nat → Int32)) (v_numbersMany_5 : Int32) (hd : den_X7_takesBytes_L5 v_pad v_padLength fu y1_5 v_at_5 v_numbers_5 v_numbersMany_5 = some q2) (H : Heap) (locs : List Loc) (ls : Array Slot), va_P (dC, dI) vwCl [(h0, .inr (7, [.ref h1, .ref h2, .int v_recorded, .ref h3, .ref h4, .ref h5, .int v_padLength, .ref h6, .int v_at_5, .int v_letter, .int v_hasUnder, .ref h7, .int v_numbersMany_5])), (h5, .inl (cI, 80, .inl v_pad)), (h7, .inl (cI, 44, .inl v_numbers_5))] H → va_D A [(h0, .inr (7, [.ref h1, .ref h2, .int v_recorded, .ref h3, .ref h4, .ref h5, .int v_padLength, .ref h6, .int v_at_5, .int v_letter, .int v_hasUnder, .ref h7, .int v_numbersMany_5])), (h5, .inl (cI, 80, .inl v_pad)), (h7, .inl (cI, 44, .inl v_numbers_5))] → va_S A s.heap H locs → lv_has ls 2 [(0, .ref h0), (1, .int y1_5)] → W p l e rmX7_takesBytes s m args below meth c H locs 0 0 Q (F0 m 5 ls []) := by
    intro fu
    induction fu with
    | zero => intro y1_5 v_at_5 v_numbers_5 v_numbersMany_5 hd; exact no_some hd
    | succ fu ih =>
      intro y1_5 v_at_5 v_numbers_5 v_numbersMany_5 hd H locs ls hP hD hS hl
      rw [den_X7_takesBytes_L5] at hd
      refine lv_iload_n hx hb dX7_takesBytes_5 rfl (lv_at hl 1 rfl) ?_
      refine lv_if_eq (tgt := 26) hx hb dX7_takesBytes_6 (by decide) (fun c4 => ?_) (fun c4 => ?_)
      · replace hd := ite_t c4 hd
        cases hd
        exact Kq2 _ _ _ hP hD hS (lv_sub hl [1] rfl)
      · replace hd := ite_f c4 hd
        refine lv_aload_n hx hb dX7_takesBytes_9 rfl (lv_at hl 0 rfl) ?_
        refine lv_bipush (v := 44) hx hb dX7_takesBytes_10 (by decide) ?_
        obtain ⟨q5, hq5, hd⟩ := bnd_some hd
        have hPc : va_P (dC, dI) vwCl [(h0, .inr (7, [.ref h1, .ref h2, .int v_recorded, .ref h3, .ref h4, .ref h5, .int v_padLength, .ref h6, .int v_at_5, .int v_letter, .int v_hasUnder, .ref h7, .int v_numbersMany_5])), (h5, .inl (cI, 80, .inl v_pad))] _ := hP.sub [0, 1] rfl
        have hDc := hD.sub (ws' := [(h0, .inr (7, [.ref h1, .ref h2, .int v_recorded, .ref h3, .ref h4, .ref h5, .int v_padLength, .ref h6, .int v_at_5, .int v_letter, .int v_hasUnder, .ref h7, .int v_numbersMany_5])), (h5, .inl (cI, 80, .inl v_pad))]) [0, 1] (by decide) rfl
        have hFc := va_free (wc := [(h0, .inr (7, [.ref h1, .ref h2, .int v_recorded, .ref h3, .ref h4, .ref h5, .int v_padLength, .ref h6, .int v_at_5, .int v_letter, .int v_hasUnder, .ref h7, .int v_numbersMany_5])), (h5, .inl (cI, 80, .inl v_pad))]) hD hS hA [0, 1] rfl
        refine va_calli (va_runV (As := [.int (44 : Int32)]) (rest := []) ⟨hx, hb, hml, hown, hts⟩ (c_X7_isNext l dC dI cI cC cT h0 h1 h2 h3 h4 h5 h6 h7 H.size v_recorded v_pad v_padLength v_at_5 v_letter v_hasUnder v_numbersMany_5 (44 : Int32) q5 hq5) (cwV 1 hts gX7_takesBytes_X7_isNext rfl rfl rfl hv_X7_isNext ⟨Nat.le_of_ble_eq_true rfl, Nat.le_of_ble_eq_true rfl⟩) ⟨preB_fb, va_recv hK hPc (ci := 7) (q0 := 0) rfl rfl, fun U hU hW => preB_mk hU hW hPc hK hDc hN⟩ rfl rfl hl.1 rfl (lv_room (Nat.le_of_ble_eq_true rfl)) dX7_takesBytes_12 ⟨Nat.zero_le _, Nat.zero_le _⟩) hS (fun q _ h => hFc q h) hFc (fun r_ u_ t H locs ht hvm hw hB hz1 hk1 hS => ?_)
        have hw : r_ = q5.1 := hw
        have hw := hw.symm
        subst hw
        obtain ⟨hP, hD⟩ := x_join (ws' := [(h0, .inr (7, [.ref h1, .ref h2, .int v_recorded, .ref h3, .ref h4, .ref h5, .int v_padLength, .ref h6, .int q5.2, .int v_letter, .int v_hasUnder, .ref h7, .int v_numbersMany_5])), (h5, .inl (cI, 80, .inl v_pad)), (h7, .inl (cI, 44, .inl v_numbers_5))]) hP hD [0, 1] [2] rfl rfl (by decide) (by decide) hk1 hFc ht hB [1, 2, 0] (by decide) rfl
        clear hPc hDc hFc hk1 hB ht hz1 hvm
        refine lv_if_eq (tgt := 26) hx hb dX7_takesBytes_15 (by decide) (fun c6 => ?_) (fun c6 => ?_)
        · replace hd := ite_t c6 hd
          cases hd
          exact Kq2 _ _ _ hP hD hS (lv_sub hl [1] rfl)
        · replace hd := ite_f c6 hd
          refine lv_aload_n hx hb dX7_takesBytes_18 rfl (lv_at hl 0 rfl) ?_
          obtain ⟨q7, hq7, hd⟩ := bnd_some hd
          have hPc : va_P (dC, dI) vwCl [(h0, .inr (7, [.ref h1, .ref h2, .int v_recorded, .ref h3, .ref h4, .ref h5, .int v_padLength, .ref h6, .int q5.2, .int v_letter, .int v_hasUnder, .ref h7, .int v_numbersMany_5])), (h5, .inl (cI, 80, .inl v_pad)), (h7, .inl (cI, 44, .inl v_numbers_5))] _ := hP.sub [0, 1, 2] rfl
          have hDc := hD.sub (ws' := [(h0, .inr (7, [.ref h1, .ref h2, .int v_recorded, .ref h3, .ref h4, .ref h5, .int v_padLength, .ref h6, .int q5.2, .int v_letter, .int v_hasUnder, .ref h7, .int v_numbersMany_5])), (h5, .inl (cI, 80, .inl v_pad)), (h7, .inl (cI, 44, .inl v_numbers_5))]) [0, 1, 2] (by decide) rfl
          have hFc := va_free (wc := [(h0, .inr (7, [.ref h1, .ref h2, .int v_recorded, .ref h3, .ref h4, .ref h5, .int v_padLength, .ref h6, .int q5.2, .int v_letter, .int v_hasUnder, .ref h7, .int v_numbersMany_5])), (h5, .inl (cI, 80, .inl v_pad)), (h7, .inl (cI, 44, .inl v_numbers_5))]) hD hS hA [0, 1, 2] rfl
          refine va_calli (va_runV (As := []) (rest := []) ⟨hx, hb, hml, hown, hts⟩ (c_X7_takesNumber l dC dI cI cC cT h0 h1 h2 h3 h4 h5 h6 h7 H.size v_recorded v_pad v_padLength q5.2 v_letter v_hasUnder v_numbers_5 v_numbersMany_5 q7 hq7) (cwV 0 hts gX7_takesBytes_X7_takesNumber rfl rfl rfl hv_X7_takesNumber ⟨Nat.le_of_ble_eq_true rfl, Nat.le_of_ble_eq_true rfl⟩) ⟨preB_fb, va_recv hK hPc (ci := 7) (q0 := 0) rfl rfl, fun U hU hW => preB_mk hU hW hPc hK hDc hN⟩ rfl rfl hl.1 rfl (lv_room (Nat.le_of_ble_eq_true rfl)) dX7_takesBytes_19 ⟨Nat.zero_le _, Nat.zero_le _⟩) hS (fun q _ h => hFc q h) hFc (fun r_ u_ t H locs ht hvm hw hB hz1 hk1 hS => ?_)
          have hw : r_ = q7.1 := hw
          have hw := hw.symm
          subst hw
          obtain ⟨hP, hD⟩ := x_join (ws' := [(h0, .inr (7, [.ref h1, .ref h2, .int v_recorded, .ref h3, .ref h4, .ref h5, .int v_padLength, .ref h6, .int q7.2.1, .int v_letter, .int v_hasUnder, .ref h7, .int q7.2.2.2])), (h5, .inl (cI, 80, .inl v_pad)), (h7, .inl (cI, 44, .inl q7.2.2.1))]) hP hD [0, 1, 2] [] rfl rfl (by decide) (by decide) hk1 hFc ht hB [0, 1, 2] (by decide) rfl
          clear hPc hDc hFc hk1 hB ht hz1 hvm
          refine lv_istore_n (lv' := [(1, .int q7.1), (0, .ref h0)]) hx hb dX7_takesBytes_22 rfl hl (by decide) rfl (fun ls hl => ?_)
          refine lv_goto (tgt := 5) hx hb dX7_takesBytes_23 (by decide) ?_
          exact ih q7.1 q7.2.1 q7.2.2.1 q7.2.2.2 hd _ _ _ hP hD hS (lv_sub hl [1, 0] rfl)
  exact KL8 FU q1.1 q1.2.1 q1.2.2.1 q1.2.2.2 hq2 _ _ _ hP hD hS (lv_sub hl [1, 0] rfl)
def rmX7_takesBlock : Room := { frames := 4, cells := 0, slots := 0, locals := 84 }
theorem kX7_takesBlock_1 : (Cond.fieldLink RX7 196 "CassetteTonesModel" "hasUnder" "Z") ∈ wsX7_takesBlock := List.mem_of_getElem? (i := 1) (by decide +kernel)
theorem inX7_takesBlock_X7 : ∀ w ∈ wsX70, w ∈ wsX7_takesBlock := by decide +kernel
theorem hp_X7_takesBlock : yX7_takesBlock.cls ≠ "java/lang/invoke/MethodHandle" ∧ yX7_takesBlock.cls ≠ "java/lang/invoke/VarHandle" ∧ (parseMethodDescriptor yX7_takesBlock.desc).map (fun d => d.parameters.length) = some 0 := by decide +kernel
theorem hv_X7_takesBlock : yX7_takesBlock.cls = RX7 ∧ yX7_takesBlock.cls ≠ "java/lang/invoke/MethodHandle" ∧ yX7_takesBlock.cls ≠ "java/lang/invoke/VarHandle" ∧ (parseMethodDescriptor yX7_takesBlock.desc).map (fun d => d.parameters.length) = some 0 := by decide +kernel
set_option maxHeartbeats 4000000 in
set_option maxRecDepth 100000 in
theorem c_X7_takesBlock (l : Launch) (dC : Nat → ClassId) (dI : Nat → Nat → Nat) (cI cC cT : ClassId) (h0 h1 h2 h3 h4 h5 h6 h7 : Nat) (sz : Nat) (v_recorded : Int32) (v_pad : (Nat → Int32)) (v_padLength : Int32) (v_at : Int32) (v_letter : Int32) (v_hasUnder : Int32) (v_numbers : (Nat → Int32)) (v_numbersMany : Int32) (r : (Int32 × Int32 × Int32 × (Nat → Int32) × Int32)) (hd : den_X7_takesBlock v_pad v_padLength v_at v_hasUnder v_numbers v_numbersMany = some r) : Met l yX7_takesBlock wsX7_takesBlock rmX7_takesBlock (va_Pc [.ref h0] (preB sz (dC, dI) [(h0, .inr (7, [.ref h1, .ref h2, .int v_recorded, .ref h3, .ref h4, .ref h5, .int v_padLength, .ref h6, .int v_at, .int v_letter, .int v_hasUnder, .ref h7, .int v_numbersMany])), (h5, .inl (cI, 80, .inl v_pad)), (h7, .inl (cI, 44, .inl v_numbers))] [(cI, .int), (cC, .char), (cT, .object "CassetteTones$Tape")])) (va_Qi (S := Unit) (fun v _ => v = r.1) (fun _ t => posB (dC, dI) [(h0, .inr (7, [.ref h1, .ref h2, .int v_recorded, .ref h3, .ref h4, .ref h5, .int v_padLength, .ref h6, .int r.2.1, .int v_letter, .int r.2.2.1, .ref h7, .int r.2.2.2.2])), (h5, .inl (cI, 80, .inl v_pad)), (h7, .inl (cI, 44, .inl r.2.2.2.1))] [(cI, .int), (cC, .char), (cT, .object "CassetteTones$Tape")] (va_A [(h0, .inr (7, [.ref h1, .ref h2, .int v_recorded, .ref h3, .ref h4, .ref h5, .int v_padLength, .ref h6, .int v_at, .int v_letter, .int v_hasUnder, .ref h7, .int v_numbersMany])), (h5, .inl (cI, 80, .inl v_pad)), (h7, .inl (cI, 44, .inl v_numbers))] sz) t) (va_A [(h0, .inr (7, [.ref h1, .ref h2, .int v_recorded, .ref h3, .ref h4, .ref h5, .int v_padLength, .ref h6, .int v_at, .int v_letter, .int v_hasUnder, .ref h7, .int v_numbersMany])), (h5, .inl (cI, 80, .inl v_pad)), (h7, .inl (cI, 44, .inl v_numbers))] sz)) 0 0 (va_A [(h0, .inr (7, [.ref h1, .ref h2, .int v_recorded, .ref h3, .ref h4, .ref h5, .int v_padLength, .ref h6, .int v_at, .int v_letter, .int v_hasUnder, .ref h7, .int v_numbersMany])), (h5, .inl (cI, 80, .inl v_pad)), (h7, .inl (cI, 44, .inl v_numbers))] sz) := by
  refine x_met_z (by decide) rfl (Nat.le_of_ble_eq_true rfl) ?_
  intro p e s m args below meth c A Q H locs ls hx hb hml hown hts hK hN hA hP hD hS hl hend
  have hown : s.vm.findClass RX7 = some m.cls := hown
  have hl : lv_has ls 2 [(0, .ref h0)] := hl
  unfold den_X7_takesBlock at hd
  refine lv_aload_n hx hb dX7_takesBlock_0 rfl (lv_at hl 0 rfl) ?_
  obtain ⟨q1, hq1, hd⟩ := bnd_some hd
  have hPc : va_P (dC, dI) vwCl [(h0, .inr (7, [.ref h1, .ref h2, .int v_recorded, .ref h3, .ref h4, .ref h5, .int v_padLength, .ref h6, .int v_at, .int v_letter, .int v_hasUnder, .ref h7, .int v_numbersMany])), (h5, .inl (cI, 80, .inl v_pad)), (h7, .inl (cI, 44, .inl v_numbers))] _ := hP.sub [0, 1, 2] rfl
  have hDc := hD.sub (ws' := [(h0, .inr (7, [.ref h1, .ref h2, .int v_recorded, .ref h3, .ref h4, .ref h5, .int v_padLength, .ref h6, .int v_at, .int v_letter, .int v_hasUnder, .ref h7, .int v_numbersMany])), (h5, .inl (cI, 80, .inl v_pad)), (h7, .inl (cI, 44, .inl v_numbers))]) [0, 1, 2] (by decide) rfl
  have hFc := va_free (wc := [(h0, .inr (7, [.ref h1, .ref h2, .int v_recorded, .ref h3, .ref h4, .ref h5, .int v_padLength, .ref h6, .int v_at, .int v_letter, .int v_hasUnder, .ref h7, .int v_numbersMany])), (h5, .inl (cI, 80, .inl v_pad)), (h7, .inl (cI, 44, .inl v_numbers))]) hD hS hA [0, 1, 2] rfl
  refine va_calli (va_runV (As := []) (rest := []) ⟨hx, hb, hml, hown, hts⟩ (c_X7_takesNumber l dC dI cI cC cT h0 h1 h2 h3 h4 h5 h6 h7 H.size v_recorded v_pad v_padLength v_at v_letter v_hasUnder v_numbers v_numbersMany q1 hq1) (cwV 0 hts gX7_takesBlock_X7_takesNumber rfl rfl rfl hv_X7_takesNumber ⟨Nat.le_of_ble_eq_true rfl, Nat.le_of_ble_eq_true rfl⟩) ⟨preB_fb, va_recv hK hPc (ci := 7) (q0 := 0) rfl rfl, fun U hU hW => preB_mk hU hW hPc hK hDc hN⟩ rfl rfl hl.1 rfl (lv_room (Nat.le_of_ble_eq_true rfl)) dX7_takesBlock_1 ⟨Nat.zero_le _, Nat.zero_le _⟩) hS (fun q _ h => hFc q h) hFc (fun r_ u_ t H locs ht hvm hw hB hz1 hk1 hS => ?_)
  have hw : r_ = q1.1 := hw
  have hw := hw.symm
  subst hw
  obtain ⟨hP, hD⟩ := x_join (ws' := [(h0, .inr (7, [.ref h1, .ref h2, .int v_recorded, .ref h3, .ref h4, .ref h5, .int v_padLength, .ref h6, .int q1.2.1, .int v_letter, .int v_hasUnder, .ref h7, .int q1.2.2.2])), (h5, .inl (cI, 80, .inl v_pad)), (h7, .inl (cI, 44, .inl q1.2.2.1))]) hP hD [0, 1, 2] [] rfl rfl (by decide) (by decide) hk1 hFc ht hB [0, 1, 2] (by decide) rfl
  clear hPc hDc hFc hk1 hB ht hz1 hvm
  refine lv_istore_n (lv' := [(1, .int q1.1), (0, .ref h0)]) hx hb dX7_takesBlock_4 rfl hl (by decide) rfl (fun ls hl => ?_)
  refine lv_aload_n hx hb dX7_takesBlock_5 rfl (lv_at hl 1 rfl) ?_
  refine lv_iload_n hx hb dX7_takesBlock_6 rfl (lv_at hl 0 rfl) ?_
  obtain ⟨q2, hq2, hd⟩ := bnd_some hd
  have Kq2 : ∀ (H : Heap) (locs : List Loc) (ls : Array Slot), va_P (dC, dI) vwCl [(h0, .inr (7, [.ref h1, .ref h2, .int v_recorded, .ref h3, .ref h4, .ref h5, .int v_padLength, .ref h6, .int q2.2, .int v_letter, .int v_hasUnder, .ref h7, .int q1.2.2.2])), (h5, .inl (cI, 80, .inl v_pad)), (h7, .inl (cI, 44, .inl q1.2.2.1))] H → va_D A [(h0, .inr (7, [.ref h1, .ref h2, .int v_recorded, .ref h3, .ref h4, .ref h5, .int v_padLength, .ref h6, .int q2.2, .int v_letter, .int v_hasUnder, .ref h7, .int q1.2.2.2])), (h5, .inl (cI, 80, .inl v_pad)), (h7, .inl (cI, 44, .inl q1.2.2.1))] → va_S A s.heap H locs → lv_has ls 2 [(0, .ref h0), (1, .int q1.1)] → W p l e rmX7_takesBlock s m args below meth c H locs 0 0 Q (F0 m 24 ls [.int q2.1, .ref h0]) := by
    intro H locs ls hP hD hS hl
    obtain ⟨g3, hd⟩ := gd_some hd
    refine va_put (D := (dC, dI)) (ci := 7) (v := .int q2.1) (ty := .boolean) (C := RX7) (T := TX7) (N := 13) hx hb hts inX7_takesBlock_X7 tyX7 tyX7_ok nmX7 hown hK hP hD hS 0 rfl rfl 10 (by decide) (hts _ kX7_takesBlock_1) (fun _ h9 => h9) rfl (by decide +kernel) (z_nar g3) (z_fit g3) (Nat.le_of_ble_eq_true rfl) dX7_takesBlock_24 (fun H locs hP hD hS => ?_)
    have hP : va_P (dC, dI) vwCl [(h0, .inr (7, [.ref h1, .ref h2, .int v_recorded, .ref h3, .ref h4, .ref h5, .int v_padLength, .ref h6, .int q2.2, .int v_letter, .int q2.1, .ref h7, .int q1.2.2.2])), (h5, .inl (cI, 80, .inl v_pad)), (h7, .inl (cI, 44, .inl q1.2.2.1))] H := hP
    have hD : va_D A [(h0, .inr (7, [.ref h1, .ref h2, .int v_recorded, .ref h3, .ref h4, .ref h5, .int v_padLength, .ref h6, .int q2.2, .int v_letter, .int q2.1, .ref h7, .int q1.2.2.2])), (h5, .inl (cI, 80, .inl v_pad)), (h7, .inl (cI, 44, .inl q1.2.2.1))] := hD
    refine lv_iload_n hx hb dX7_takesBlock_27 rfl (lv_at hl 1 rfl) ?_
    refine lv_if_eq (tgt := 65) hx hb dX7_takesBlock_28 (by decide) (fun c4 => ?_) (fun c4 => ?_)
    · replace hd := ite_t c4 hd
      refine lv_iconst (v := 0) hx hb dX7_takesBlock_65 (by decide) ?_
      cases hd
      exact hend (by rfl) (by rfl) hP hD hS dX7_takesBlock_66
    · replace hd := ite_f c4 hd
      refine lv_aload_n hx hb dX7_takesBlock_31 rfl (lv_at hl 0 rfl) ?_
      refine va_get (D := (dC, dI)) (ci := 7) (v := .int q2.1) (C := RX7) (T := TX7) (N := 13) hx hb hts inX7_takesBlock_X7 hown hK hP 0 rfl rfl 10 (by decide) (hts _ kX7_takesBlock_1) (fun _ h9 => h9) rfl dX7_takesBlock_32 ?_
      obtain ⟨J5, eJ5, hd⟩ := nm_ex hd
      have KJ5 : ∀ (a6 : Int32) (a7 : (Nat → Int32)) (a8 : Int32) (hd : J5 a6 a7 a8 = some r) (H : Heap) (locs : List Loc) (ls : Array Slot), va_P (dC, dI) vwCl [(h0, .inr (7, [.ref h1, .ref h2, .int v_recorded, .ref h3, .ref h4, .ref h5, .int v_padLength, .ref h6, .int a6, .int v_letter, .int q2.1, .ref h7, .int a8])), (h5, .inl (cI, 80, .inl v_pad)), (h7, .inl (cI, 44, .inl a7))] H → va_D A [(h0, .inr (7, [.ref h1, .ref h2, .int v_recorded, .ref h3, .ref h4, .ref h5, .int v_padLength, .ref h6, .int a6, .int v_letter, .int q2.1, .ref h7, .int a8])), (h5, .inl (cI, 80, .inl v_pad)), (h7, .inl (cI, 44, .inl a7))] → va_S A s.heap H locs → lv_has ls 2 [(0, .ref h0)] → W p l e rmX7_takesBlock s m args below meth c H locs 0 0 Q (F0 m 45 ls []) := by
        intro a6 a7 a8 hd H locs ls hP hD hS hl
        replace hd := jx3 eJ5 hd
        refine lv_aload_n hx hb dX7_takesBlock_45 rfl (lv_at hl 0 rfl) ?_
        refine lv_bipush (v := 58) hx hb dX7_takesBlock_46 (by decide) ?_
        obtain ⟨q9, hq9, hd⟩ := bnd_some hd
        have hPc : va_P (dC, dI) vwCl [(h0, .inr (7, [.ref h1, .ref h2, .int v_recorded, .ref h3, .ref h4, .ref h5, .int v_padLength, .ref h6, .int a6, .int v_letter, .int q2.1, .ref h7, .int a8])), (h5, .inl (cI, 80, .inl v_pad))] _ := hP.sub [0, 1] rfl
        have hDc := hD.sub (ws' := [(h0, .inr (7, [.ref h1, .ref h2, .int v_recorded, .ref h3, .ref h4, .ref h5, .int v_padLength, .ref h6, .int a6, .int v_letter, .int q2.1, .ref h7, .int a8])), (h5, .inl (cI, 80, .inl v_pad))]) [0, 1] (by decide) rfl
        have hFc := va_free (wc := [(h0, .inr (7, [.ref h1, .ref h2, .int v_recorded, .ref h3, .ref h4, .ref h5, .int v_padLength, .ref h6, .int a6, .int v_letter, .int q2.1, .ref h7, .int a8])), (h5, .inl (cI, 80, .inl v_pad))]) hD hS hA [0, 1] rfl
        refine va_calli (va_runV (As := [.int (58 : Int32)]) (rest := []) ⟨hx, hb, hml, hown, hts⟩ (c_X7_isNext l dC dI cI cC cT h0 h1 h2 h3 h4 h5 h6 h7 H.size v_recorded v_pad v_padLength a6 v_letter q2.1 a8 (58 : Int32) q9 hq9) (cwV 1 hts gX7_takesBlock_X7_isNext rfl rfl rfl hv_X7_isNext ⟨Nat.le_of_ble_eq_true rfl, Nat.le_of_ble_eq_true rfl⟩) ⟨preB_fb, va_recv hK hPc (ci := 7) (q0 := 0) rfl rfl, fun U hU hW => preB_mk hU hW hPc hK hDc hN⟩ rfl rfl hl.1 rfl (lv_room (Nat.le_of_ble_eq_true rfl)) dX7_takesBlock_48 ⟨Nat.zero_le _, Nat.zero_le _⟩) hS (fun q _ h => hFc q h) hFc (fun r_ u_ t H locs ht hvm hw hB hz1 hk1 hS => ?_)
        have hw : r_ = q9.1 := hw
        have hw := hw.symm
        subst hw
        obtain ⟨hP, hD⟩ := x_join (ws' := [(h0, .inr (7, [.ref h1, .ref h2, .int v_recorded, .ref h3, .ref h4, .ref h5, .int v_padLength, .ref h6, .int q9.2, .int v_letter, .int q2.1, .ref h7, .int a8])), (h5, .inl (cI, 80, .inl v_pad)), (h7, .inl (cI, 44, .inl a7))]) hP hD [0, 1] [2] rfl rfl (by decide) (by decide) hk1 hFc ht hB [1, 2, 0] (by decide) rfl
        clear hPc hDc hFc hk1 hB ht hz1 hvm
        refine lv_if_eq (tgt := 65) hx hb dX7_takesBlock_51 (by decide) (fun c10 => ?_) (fun c10 => ?_)
        · replace hd := ite_t c10 hd
          refine lv_iconst (v := 0) hx hb dX7_takesBlock_65 (by decide) ?_
          cases hd
          exact hend (by rfl) (by rfl) hP hD hS dX7_takesBlock_66
        · replace hd := ite_f c10 hd
          refine lv_aload_n hx hb dX7_takesBlock_54 rfl (lv_at hl 0 rfl) ?_
          obtain ⟨q11, hq11, hd⟩ := bnd_some hd
          have hPc : va_P (dC, dI) vwCl [(h0, .inr (7, [.ref h1, .ref h2, .int v_recorded, .ref h3, .ref h4, .ref h5, .int v_padLength, .ref h6, .int q9.2, .int v_letter, .int q2.1, .ref h7, .int a8])), (h5, .inl (cI, 80, .inl v_pad)), (h7, .inl (cI, 44, .inl a7))] _ := hP.sub [0, 1, 2] rfl
          have hDc := hD.sub (ws' := [(h0, .inr (7, [.ref h1, .ref h2, .int v_recorded, .ref h3, .ref h4, .ref h5, .int v_padLength, .ref h6, .int q9.2, .int v_letter, .int q2.1, .ref h7, .int a8])), (h5, .inl (cI, 80, .inl v_pad)), (h7, .inl (cI, 44, .inl a7))]) [0, 1, 2] (by decide) rfl
          have hFc := va_free (wc := [(h0, .inr (7, [.ref h1, .ref h2, .int v_recorded, .ref h3, .ref h4, .ref h5, .int v_padLength, .ref h6, .int q9.2, .int v_letter, .int q2.1, .ref h7, .int a8])), (h5, .inl (cI, 80, .inl v_pad)), (h7, .inl (cI, 44, .inl a7))]) hD hS hA [0, 1, 2] rfl
          refine va_calli (va_runV (As := []) (rest := []) ⟨hx, hb, hml, hown, hts⟩ (c_X7_takesBytes l dC dI cI cC cT h0 h1 h2 h3 h4 h5 h6 h7 H.size v_recorded v_pad v_padLength q9.2 v_letter q2.1 a7 a8 q11 hq11) (cwV 0 hts gX7_takesBlock_X7_takesBytes rfl rfl rfl hv_X7_takesBytes ⟨Nat.le_of_ble_eq_true rfl, Nat.le_of_ble_eq_true rfl⟩) ⟨preB_fb, va_recv hK hPc (ci := 7) (q0 := 0) rfl rfl, fun U hU hW => preB_mk hU hW hPc hK hDc hN⟩ rfl rfl hl.1 rfl (lv_room (Nat.le_of_ble_eq_true rfl)) dX7_takesBlock_55 ⟨Nat.zero_le _, Nat.zero_le _⟩) hS (fun q _ h => hFc q h) hFc (fun r_ u_ t H locs ht hvm hw hB hz1 hk1 hS => ?_)
          have hw : r_ = q11.1 := hw
          have hw := hw.symm
          subst hw
          obtain ⟨hP, hD⟩ := x_join (ws' := [(h0, .inr (7, [.ref h1, .ref h2, .int v_recorded, .ref h3, .ref h4, .ref h5, .int v_padLength, .ref h6, .int q11.2.1, .int v_letter, .int q2.1, .ref h7, .int q11.2.2.2])), (h5, .inl (cI, 80, .inl v_pad)), (h7, .inl (cI, 44, .inl q11.2.2.1))]) hP hD [0, 1, 2] [] rfl rfl (by decide) (by decide) hk1 hFc ht hB [0, 1, 2] (by decide) rfl
          clear hPc hDc hFc hk1 hB ht hz1 hvm
          refine lv_if_eq (tgt := 65) hx hb dX7_takesBlock_58 (by decide) (fun c12 => ?_) (fun c12 => ?_)
          · replace hd := ite_t c12 hd
            refine lv_iconst (v := 0) hx hb dX7_takesBlock_65 (by decide) ?_
            cases hd
            exact hend (by rfl) (by rfl) hP hD hS dX7_takesBlock_66
          · replace hd := ite_f c12 hd
            refine lv_iconst (v := 1) hx hb dX7_takesBlock_61 (by decide) ?_
            refine lv_goto (tgt := 66) hx hb dX7_takesBlock_62 (by decide) ?_
            cases hd
            exact hend (by rfl) (by rfl) hP hD hS dX7_takesBlock_66
      refine lv_if_eq (tgt := 45) hx hb dX7_takesBlock_35 (by decide) (fun c13 => ?_) (fun c13 => ?_)
      · replace hd := ite_t c13 hd
        exact KJ5 q2.2 q1.2.2.1 q1.2.2.2 hd _ _ _ hP hD hS (lv_sub hl [0] rfl)
      · replace hd := ite_f c13 hd
        refine lv_aload_n hx hb dX7_takesBlock_38 rfl (lv_at hl 0 rfl) ?_
        obtain ⟨q14, hq14, hd⟩ := bnd_some hd
        have hPc : va_P (dC, dI) vwCl [(h0, .inr (7, [.ref h1, .ref h2, .int v_recorded, .ref h3, .ref h4, .ref h5, .int v_padLength, .ref h6, .int q2.2, .int v_letter, .int q2.1, .ref h7, .int q1.2.2.2])), (h5, .inl (cI, 80, .inl v_pad)), (h7, .inl (cI, 44, .inl q1.2.2.1))] _ := hP.sub [0, 1, 2] rfl
        have hDc := hD.sub (ws' := [(h0, .inr (7, [.ref h1, .ref h2, .int v_recorded, .ref h3, .ref h4, .ref h5, .int v_padLength, .ref h6, .int q2.2, .int v_letter, .int q2.1, .ref h7, .int q1.2.2.2])), (h5, .inl (cI, 80, .inl v_pad)), (h7, .inl (cI, 44, .inl q1.2.2.1))]) [0, 1, 2] (by decide) rfl
        have hFc := va_free (wc := [(h0, .inr (7, [.ref h1, .ref h2, .int v_recorded, .ref h3, .ref h4, .ref h5, .int v_padLength, .ref h6, .int q2.2, .int v_letter, .int q2.1, .ref h7, .int q1.2.2.2])), (h5, .inl (cI, 80, .inl v_pad)), (h7, .inl (cI, 44, .inl q1.2.2.1))]) hD hS hA [0, 1, 2] rfl
        refine va_calli (va_runV (As := []) (rest := []) ⟨hx, hb, hml, hown, hts⟩ (c_X7_takesNumber l dC dI cI cC cT h0 h1 h2 h3 h4 h5 h6 h7 H.size v_recorded v_pad v_padLength q2.2 v_letter q2.1 q1.2.2.1 q1.2.2.2 q14 hq14) (cwV 0 hts gX7_takesBlock_X7_takesNumber rfl rfl rfl hv_X7_takesNumber ⟨Nat.le_of_ble_eq_true rfl, Nat.le_of_ble_eq_true rfl⟩) ⟨preB_fb, va_recv hK hPc (ci := 7) (q0 := 0) rfl rfl, fun U hU hW => preB_mk hU hW hPc hK hDc hN⟩ rfl rfl hl.1 rfl (lv_room (Nat.le_of_ble_eq_true rfl)) dX7_takesBlock_39 ⟨Nat.zero_le _, Nat.zero_le _⟩) hS (fun q _ h => hFc q h) hFc (fun r_ u_ t H locs ht hvm hw hB hz1 hk1 hS => ?_)
        have hw : r_ = q14.1 := hw
        have hw := hw.symm
        subst hw
        obtain ⟨hP, hD⟩ := x_join (ws' := [(h0, .inr (7, [.ref h1, .ref h2, .int v_recorded, .ref h3, .ref h4, .ref h5, .int v_padLength, .ref h6, .int q14.2.1, .int v_letter, .int q2.1, .ref h7, .int q14.2.2.2])), (h5, .inl (cI, 80, .inl v_pad)), (h7, .inl (cI, 44, .inl q14.2.2.1))]) hP hD [0, 1, 2] [] rfl rfl (by decide) (by decide) hk1 hFc ht hB [0, 1, 2] (by decide) rfl
        clear hPc hDc hFc hk1 hB ht hz1 hvm
        refine lv_if_eq (tgt := 65) hx hb dX7_takesBlock_42 (by decide) (fun c15 => ?_) (fun c15 => ?_)
        · replace hd := ite_t c15 hd
          refine lv_iconst (v := 0) hx hb dX7_takesBlock_65 (by decide) ?_
          cases hd
          exact hend (by rfl) (by rfl) hP hD hS dX7_takesBlock_66
        · replace hd := ite_f c15 hd
          exact KJ5 q14.2.1 q14.2.2.1 q14.2.2.2 hd _ _ _ hP hD hS (lv_sub hl [0] rfl)
  replace hd := hq2
  clear hq2
  refine lv_if_eq (tgt := 23) hx hb dX7_takesBlock_7 (by decide) (fun c16 => ?_) (fun c16 => ?_)
  · replace hd := ite_t c16 hd
    refine lv_iconst (v := 0) hx hb dX7_takesBlock_23 (by decide) ?_
    cases hd
    exact Kq2 _ _ _ hP hD hS (lv_sub hl [1, 0] rfl)
  · replace hd := ite_f c16 hd
    refine lv_aload_n hx hb dX7_takesBlock_10 rfl (lv_at hl 1 rfl) ?_
    refine lv_bipush (v := 94) hx hb dX7_takesBlock_11 (by decide) ?_
    obtain ⟨q17, hq17, hd⟩ := bnd_some hd
    have hPc : va_P (dC, dI) vwCl [(h0, .inr (7, [.ref h1, .ref h2, .int v_recorded, .ref h3, .ref h4, .ref h5, .int v_padLength, .ref h6, .int q1.2.1, .int v_letter, .int v_hasUnder, .ref h7, .int q1.2.2.2])), (h5, .inl (cI, 80, .inl v_pad))] _ := hP.sub [0, 1] rfl
    have hDc := hD.sub (ws' := [(h0, .inr (7, [.ref h1, .ref h2, .int v_recorded, .ref h3, .ref h4, .ref h5, .int v_padLength, .ref h6, .int q1.2.1, .int v_letter, .int v_hasUnder, .ref h7, .int q1.2.2.2])), (h5, .inl (cI, 80, .inl v_pad))]) [0, 1] (by decide) rfl
    have hFc := va_free (wc := [(h0, .inr (7, [.ref h1, .ref h2, .int v_recorded, .ref h3, .ref h4, .ref h5, .int v_padLength, .ref h6, .int q1.2.1, .int v_letter, .int v_hasUnder, .ref h7, .int q1.2.2.2])), (h5, .inl (cI, 80, .inl v_pad))]) hD hS hA [0, 1] rfl
    refine va_calli (va_runV (As := [.int (94 : Int32)]) (rest := [.ref h0]) ⟨hx, hb, hml, hown, hts⟩ (c_X7_isNext l dC dI cI cC cT h0 h1 h2 h3 h4 h5 h6 h7 H.size v_recorded v_pad v_padLength q1.2.1 v_letter v_hasUnder q1.2.2.2 (94 : Int32) q17 hq17) (cwV 1 hts gX7_takesBlock_X7_isNext rfl rfl rfl hv_X7_isNext ⟨Nat.le_of_ble_eq_true rfl, Nat.le_of_ble_eq_true rfl⟩) ⟨preB_fb, va_recv hK hPc (ci := 7) (q0 := 0) rfl rfl, fun U hU hW => preB_mk hU hW hPc hK hDc hN⟩ rfl rfl hl.1 rfl (lv_room (Nat.le_of_ble_eq_true rfl)) dX7_takesBlock_13 ⟨Nat.zero_le _, Nat.zero_le _⟩) hS (fun q _ h => hFc q h) hFc (fun r_ u_ t H locs ht hvm hw hB hz1 hk1 hS => ?_)
    have hw : r_ = q17.1 := hw
    have hw := hw.symm
    subst hw
    obtain ⟨hP, hD⟩ := x_join (ws' := [(h0, .inr (7, [.ref h1, .ref h2, .int v_recorded, .ref h3, .ref h4, .ref h5, .int v_padLength, .ref h6, .int q17.2, .int v_letter, .int v_hasUnder, .ref h7, .int q1.2.2.2])), (h5, .inl (cI, 80, .inl v_pad)), (h7, .inl (cI, 44, .inl q1.2.2.1))]) hP hD [0, 1] [2] rfl rfl (by decide) (by decide) hk1 hFc ht hB [1, 2, 0] (by decide) rfl
    clear hPc hDc hFc hk1 hB ht hz1 hvm
    refine lv_if_eq (tgt := 23) hx hb dX7_takesBlock_16 (by decide) (fun c18 => ?_) (fun c18 => ?_)
    · replace hd := ite_t c18 hd
      refine lv_iconst (v := 0) hx hb dX7_takesBlock_23 (by decide) ?_
      cases hd
      exact Kq2 _ _ _ hP hD hS (lv_sub hl [1, 0] rfl)
    · replace hd := ite_f c18 hd
      refine lv_iconst (v := 1) hx hb dX7_takesBlock_19 (by decide) ?_
      refine lv_goto (tgt := 24) hx hb dX7_takesBlock_20 (by decide) ?_
      cases hd
      exact Kq2 _ _ _ hP hD hS (lv_sub hl [1, 0] rfl)
def rmX7_readsOrder : Room := { frames := 5, cells := 0, slots := 0, locals := 105 }
theorem kX7_readsOrder_1 : (Cond.fieldLink RX7 187 "CassetteTonesModel" "numbersMany" "I") ∈ wsX7_readsOrder := List.mem_of_getElem? (i := 1) (by decide +kernel)
theorem kX7_readsOrder_2 : (Cond.fieldLink RX7 177 "CassetteTonesModel" "at" "I") ∈ wsX7_readsOrder := List.mem_of_getElem? (i := 2) (by decide +kernel)
theorem kX7_readsOrder_3 : (Cond.fieldLink RX7 203 "CassetteTonesModel" "letter" "I") ∈ wsX7_readsOrder := List.mem_of_getElem? (i := 3) (by decide +kernel)
theorem inX7_readsOrder_X7 : ∀ w ∈ wsX70, w ∈ wsX7_readsOrder := by decide +kernel
theorem hp_X7_readsOrder : yX7_readsOrder.cls ≠ "java/lang/invoke/MethodHandle" ∧ yX7_readsOrder.cls ≠ "java/lang/invoke/VarHandle" ∧ (parseMethodDescriptor yX7_readsOrder.desc).map (fun d => d.parameters.length) = some 0 := by decide +kernel
theorem hv_X7_readsOrder : yX7_readsOrder.cls = RX7 ∧ yX7_readsOrder.cls ≠ "java/lang/invoke/MethodHandle" ∧ yX7_readsOrder.cls ≠ "java/lang/invoke/VarHandle" ∧ (parseMethodDescriptor yX7_readsOrder.desc).map (fun d => d.parameters.length) = some 0 := by decide +kernel
set_option maxHeartbeats 4000000 in
set_option maxRecDepth 100000 in
theorem c_X7_readsOrder (l : Launch) (dC : Nat → ClassId) (dI : Nat → Nat → Nat) (cI cC cT : ClassId) (h0 h1 h2 h3 h4 h5 h6 h7 : Nat) (sz : Nat) (v_recorded : Int32) (v_pad : (Nat → Int32)) (v_padLength : Int32) (v_at : Int32) (v_letter : Int32) (v_hasUnder : Int32) (v_numbers : (Nat → Int32)) (v_numbersMany : Int32) (r : (Int32 × Int32 × Int32 × Int32 × (Nat → Int32) × Int32)) (hd : den_X7_readsOrder v_pad v_padLength v_at v_letter v_hasUnder v_numbers v_numbersMany = some r) : Met l yX7_readsOrder wsX7_readsOrder rmX7_readsOrder (va_Pc [.ref h0] (preB sz (dC, dI) [(h0, .inr (7, [.ref h1, .ref h2, .int v_recorded, .ref h3, .ref h4, .ref h5, .int v_padLength, .ref h6, .int v_at, .int v_letter, .int v_hasUnder, .ref h7, .int v_numbersMany])), (h5, .inl (cI, 80, .inl v_pad)), (h7, .inl (cI, 44, .inl v_numbers))] [(cI, .int), (cC, .char), (cT, .object "CassetteTones$Tape")])) (va_Qi (S := Unit) (fun v _ => v = r.1) (fun _ t => posB (dC, dI) [(h0, .inr (7, [.ref h1, .ref h2, .int v_recorded, .ref h3, .ref h4, .ref h5, .int v_padLength, .ref h6, .int r.2.1, .int r.2.2.1, .int r.2.2.2.1, .ref h7, .int r.2.2.2.2.2])), (h5, .inl (cI, 80, .inl v_pad)), (h7, .inl (cI, 44, .inl r.2.2.2.2.1))] [(cI, .int), (cC, .char), (cT, .object "CassetteTones$Tape")] (va_A [(h0, .inr (7, [.ref h1, .ref h2, .int v_recorded, .ref h3, .ref h4, .ref h5, .int v_padLength, .ref h6, .int v_at, .int v_letter, .int v_hasUnder, .ref h7, .int v_numbersMany])), (h5, .inl (cI, 80, .inl v_pad)), (h7, .inl (cI, 44, .inl v_numbers))] sz) t) (va_A [(h0, .inr (7, [.ref h1, .ref h2, .int v_recorded, .ref h3, .ref h4, .ref h5, .int v_padLength, .ref h6, .int v_at, .int v_letter, .int v_hasUnder, .ref h7, .int v_numbersMany])), (h5, .inl (cI, 80, .inl v_pad)), (h7, .inl (cI, 44, .inl v_numbers))] sz)) 0 0 (va_A [(h0, .inr (7, [.ref h1, .ref h2, .int v_recorded, .ref h3, .ref h4, .ref h5, .int v_padLength, .ref h6, .int v_at, .int v_letter, .int v_hasUnder, .ref h7, .int v_numbersMany])), (h5, .inl (cI, 80, .inl v_pad)), (h7, .inl (cI, 44, .inl v_numbers))] sz) := by
  refine x_met_z (by decide) rfl (Nat.le_of_ble_eq_true rfl) ?_
  intro p e s m args below meth c A Q H locs ls hx hb hml hown hts hK hN hA hP hD hS hl hend
  have hown : s.vm.findClass RX7 = some m.cls := hown
  have hl : lv_has ls 1 [(0, .ref h0)] := hl
  unfold den_X7_readsOrder at hd
  refine lv_aload_n hx hb dX7_readsOrder_0 rfl (lv_at hl 0 rfl) ?_
  refine lv_iconst (v := 0) hx hb dX7_readsOrder_1 (by decide) ?_
  refine va_put (D := (dC, dI)) (ci := 7) (v := .int (0 : Int32)) (ty := .int) (C := RX7) (T := TX7) (N := 13) hx hb hts inX7_readsOrder_X7 tyX7 tyX7_ok nmX7 hown hK hP hD hS 0 rfl rfl 12 (by decide) (hts _ kX7_readsOrder_1) (fun _ h9 => h9) rfl (by decide +kernel) rfl rfl (Nat.le_of_ble_eq_true rfl) dX7_readsOrder_2 (fun H locs hP hD hS => ?_)
  have hP : va_P (dC, dI) vwCl [(h0, .inr (7, [.ref h1, .ref h2, .int v_recorded, .ref h3, .ref h4, .ref h5, .int v_padLength, .ref h6, .int v_at, .int v_letter, .int v_hasUnder, .ref h7, .int (0 : Int32)])), (h5, .inl (cI, 80, .inl v_pad)), (h7, .inl (cI, 44, .inl v_numbers))] H := hP
  have hD : va_D A [(h0, .inr (7, [.ref h1, .ref h2, .int v_recorded, .ref h3, .ref h4, .ref h5, .int v_padLength, .ref h6, .int v_at, .int v_letter, .int v_hasUnder, .ref h7, .int (0 : Int32)])), (h5, .inl (cI, 80, .inl v_pad)), (h7, .inl (cI, 44, .inl v_numbers))] := hD
  refine lv_aload_n hx hb dX7_readsOrder_5 rfl (lv_at hl 0 rfl) ?_
  refine lv_aload_n hx hb dX7_readsOrder_6 rfl (lv_at hl 0 rfl) ?_
  refine lv_aload_n hx hb dX7_readsOrder_7 rfl (lv_at hl 0 rfl) ?_
  refine va_get (D := (dC, dI)) (ci := 7) (v := .int v_at) (C := RX7) (T := TX7) (N := 13) hx hb hts inX7_readsOrder_X7 hown hK hP 0 rfl rfl 8 (by decide) (hts _ kX7_readsOrder_2) (fun _ h9 => h9) rfl dX7_readsOrder_8 ?_
  obtain ⟨q1, hq1, hd⟩ := bnd_some hd
  have hPc : va_P (dC, dI) vwCl [(h0, .inr (7, [.ref h1, .ref h2, .int v_recorded, .ref h3, .ref h4, .ref h5, .int v_padLength, .ref h6, .int v_at, .int v_letter, .int v_hasUnder, .ref h7, .int (0 : Int32)])), (h5, .inl (cI, 80, .inl v_pad))] _ := hP.sub [0, 1] rfl
  have hDc := hD.sub (ws' := [(h0, .inr (7, [.ref h1, .ref h2, .int v_recorded, .ref h3, .ref h4, .ref h5, .int v_padLength, .ref h6, .int v_at, .int v_letter, .int v_hasUnder, .ref h7, .int (0 : Int32)])), (h5, .inl (cI, 80, .inl v_pad))]) [0, 1] (by decide) rfl
  have hFc := va_free (wc := [(h0, .inr (7, [.ref h1, .ref h2, .int v_recorded, .ref h3, .ref h4, .ref h5, .int v_padLength, .ref h6, .int v_at, .int v_letter, .int v_hasUnder, .ref h7, .int (0 : Int32)])), (h5, .inl (cI, 80, .inl v_pad))]) hD hS hA [0, 1] rfl
  refine va_calli (va_runV (As := [.int v_at]) (rest := [.ref h0]) ⟨hx, hb, hml, hown, hts⟩ (c_X7_character l dC dI cI cC cT h0 h1 h2 h3 h4 h5 h6 h7 H.size v_recorded v_pad v_padLength v_at v_letter v_hasUnder (0 : Int32) v_at q1 hq1) (cwV 1 hts gX7_readsOrder_X7_character rfl rfl rfl hv_X7_character ⟨Nat.le_of_ble_eq_true rfl, Nat.le_of_ble_eq_true rfl⟩) ⟨preB_fb, va_recv hK hPc (ci := 7) (q0 := 0) rfl rfl, fun U hU hW => preB_mk hU hW hPc hK hDc hN⟩ rfl rfl hl.1 rfl (lv_room (Nat.le_of_ble_eq_true rfl)) dX7_readsOrder_11 ⟨Nat.zero_le _, Nat.zero_le _⟩) hS (fun q _ h => hFc q h) hFc (fun r_ u_ t H locs ht hvm hw hB hz1 hk1 hS => ?_)
  have hw : r_ = q1 := hw
  have hw := hw.symm
  subst hw
  obtain ⟨hP, hD⟩ := x_join (ws' := [(h0, .inr (7, [.ref h1, .ref h2, .int v_recorded, .ref h3, .ref h4, .ref h5, .int v_padLength, .ref h6, .int v_at, .int v_letter, .int v_hasUnder, .ref h7, .int (0 : Int32)])), (h5, .inl (cI, 80, .inl v_pad)), (h7, .inl (cI, 44, .inl v_numbers))]) hP hD [0, 1] [2] rfl rfl (by decide) (by decide) hk1 hFc ht hB [1, 2, 0] (by decide) rfl
  clear hPc hDc hFc hk1 hB ht hz1 hvm
  refine va_put (D := (dC, dI)) (ci := 7) (v := .int q1) (ty := .int) (C := RX7) (T := TX7) (N := 13) hx hb hts inX7_readsOrder_X7 tyX7 tyX7_ok nmX7 hown hK hP hD hS 0 rfl rfl 9 (by decide) (hts _ kX7_readsOrder_3) (fun _ h9 => h9) rfl (by decide +kernel) rfl rfl (Nat.le_of_ble_eq_true rfl) dX7_readsOrder_14 (fun H locs hP hD hS => ?_)
  have hP : va_P (dC, dI) vwCl [(h0, .inr (7, [.ref h1, .ref h2, .int v_recorded, .ref h3, .ref h4, .ref h5, .int v_padLength, .ref h6, .int v_at, .int q1, .int v_hasUnder, .ref h7, .int (0 : Int32)])), (h5, .inl (cI, 80, .inl v_pad)), (h7, .inl (cI, 44, .inl v_numbers))] H := hP
  have hD : va_D A [(h0, .inr (7, [.ref h1, .ref h2, .int v_recorded, .ref h3, .ref h4, .ref h5, .int v_padLength, .ref h6, .int v_at, .int q1, .int v_hasUnder, .ref h7, .int (0 : Int32)])), (h5, .inl (cI, 80, .inl v_pad)), (h7, .inl (cI, 44, .inl v_numbers))] := hD
  refine lv_aload_n hx hb dX7_readsOrder_17 rfl (lv_at hl 0 rfl) ?_
  refine lv_dup hx hb dX7_readsOrder_18 rfl ?_
  refine va_get (D := (dC, dI)) (ci := 7) (v := .int v_at) (C := RX7) (T := TX7) (N := 13) hx hb hts inX7_readsOrder_X7 hown hK hP 0 rfl rfl 8 (by decide) (hts _ kX7_readsOrder_2) (fun _ h9 => h9) rfl dX7_readsOrder_19 ?_
  refine lv_iconst (v := 1) hx hb dX7_readsOrder_22 (by decide) ?_
  refine lv_iadd hx hb dX7_readsOrder_23 ?_
  refine va_put (D := (dC, dI)) (ci := 7) (v := .int (v_at + (1 : Int32))) (ty := .int) (C := RX7) (T := TX7) (N := 13) hx hb hts inX7_readsOrder_X7 tyX7 tyX7_ok nmX7 hown hK hP hD hS 0 rfl rfl 8 (by decide) (hts _ kX7_readsOrder_2) (fun _ h9 => h9) rfl (by decide +kernel) rfl rfl (Nat.le_of_ble_eq_true rfl) dX7_readsOrder_24 (fun H locs hP hD hS => ?_)
  have hP : va_P (dC, dI) vwCl [(h0, .inr (7, [.ref h1, .ref h2, .int v_recorded, .ref h3, .ref h4, .ref h5, .int v_padLength, .ref h6, .int (v_at + (1 : Int32)), .int q1, .int v_hasUnder, .ref h7, .int (0 : Int32)])), (h5, .inl (cI, 80, .inl v_pad)), (h7, .inl (cI, 44, .inl v_numbers))] H := hP
  have hD : va_D A [(h0, .inr (7, [.ref h1, .ref h2, .int v_recorded, .ref h3, .ref h4, .ref h5, .int v_padLength, .ref h6, .int (v_at + (1 : Int32)), .int q1, .int v_hasUnder, .ref h7, .int (0 : Int32)])), (h5, .inl (cI, 80, .inl v_pad)), (h7, .inl (cI, 44, .inl v_numbers))] := hD
  refine lv_aload_n hx hb dX7_readsOrder_27 rfl (lv_at hl 0 rfl) ?_
  refine va_get (D := (dC, dI)) (ci := 7) (v := .int q1) (C := RX7) (T := TX7) (N := 13) hx hb hts inX7_readsOrder_X7 hown hK hP 0 rfl rfl 9 (by decide) (hts _ kX7_readsOrder_3) (fun _ h9 => h9) rfl dX7_readsOrder_28 ?_
  by_cases c2 : q1 = (43 : Int32)
  · replace hd := ite_t c2 hd
    refine lv_lookup (off := 33) (tgt := 64) hx hb dX7_readsOrder_31 (by decide) (by rw [c2]; rfl) (by decide) ?_
    refine lv_aload_n hx hb dX7_readsOrder_64 rfl (lv_at hl 0 rfl) ?_
    obtain ⟨q3, hq3, hd⟩ := bnd_some hd
    have hPc : va_P (dC, dI) vwCl [(h0, .inr (7, [.ref h1, .ref h2, .int v_recorded, .ref h3, .ref h4, .ref h5, .int v_padLength, .ref h6, .int (v_at + (1 : Int32)), .int q1, .int v_hasUnder, .ref h7, .int (0 : Int32)])), (h5, .inl (cI, 80, .inl v_pad)), (h7, .inl (cI, 44, .inl v_numbers))] _ := hP.sub [0, 1, 2] rfl
    have hDc := hD.sub (ws' := [(h0, .inr (7, [.ref h1, .ref h2, .int v_recorded, .ref h3, .ref h4, .ref h5, .int v_padLength, .ref h6, .int (v_at + (1 : Int32)), .int q1, .int v_hasUnder, .ref h7, .int (0 : Int32)])), (h5, .inl (cI, 80, .inl v_pad)), (h7, .inl (cI, 44, .inl v_numbers))]) [0, 1, 2] (by decide) rfl
    have hFc := va_free (wc := [(h0, .inr (7, [.ref h1, .ref h2, .int v_recorded, .ref h3, .ref h4, .ref h5, .int v_padLength, .ref h6, .int (v_at + (1 : Int32)), .int q1, .int v_hasUnder, .ref h7, .int (0 : Int32)])), (h5, .inl (cI, 80, .inl v_pad)), (h7, .inl (cI, 44, .inl v_numbers))]) hD hS hA [0, 1, 2] rfl
    refine va_calli (va_runV (As := []) (rest := []) ⟨hx, hb, hml, hown, hts⟩ (c_X7_takesBlock l dC dI cI cC cT h0 h1 h2 h3 h4 h5 h6 h7 H.size v_recorded v_pad v_padLength (v_at + (1 : Int32)) q1 v_hasUnder v_numbers (0 : Int32) q3 hq3) (cwV 0 hts gX7_readsOrder_X7_takesBlock rfl rfl rfl hv_X7_takesBlock ⟨Nat.le_of_ble_eq_true rfl, Nat.le_of_ble_eq_true rfl⟩) ⟨preB_fb, va_recv hK hPc (ci := 7) (q0 := 0) rfl rfl, fun U hU hW => preB_mk hU hW hPc hK hDc hN⟩ rfl rfl hl.1 rfl (lv_room (Nat.le_of_ble_eq_true rfl)) dX7_readsOrder_65 ⟨Nat.zero_le _, Nat.zero_le _⟩) hS (fun q _ h => hFc q h) hFc (fun r_ u_ t H locs ht hvm hw hB hz1 hk1 hS => ?_)
    have hw : r_ = q3.1 := hw
    have hw := hw.symm
    subst hw
    obtain ⟨hP, hD⟩ := x_join (ws' := [(h0, .inr (7, [.ref h1, .ref h2, .int v_recorded, .ref h3, .ref h4, .ref h5, .int v_padLength, .ref h6, .int q3.2.1, .int q1, .int q3.2.2.1, .ref h7, .int q3.2.2.2.2])), (h5, .inl (cI, 80, .inl v_pad)), (h7, .inl (cI, 44, .inl q3.2.2.2.1))]) hP hD [0, 1, 2] [] rfl rfl (by decide) (by decide) hk1 hFc ht hB [0, 1, 2] (by decide) rfl
    clear hPc hDc hFc hk1 hB ht hz1 hvm
    obtain ⟨g4, hd⟩ := gd_some hd
    cases hd
    exact hend (by rfl) (z_nar g4) hP hD hS dX7_readsOrder_68
  · replace hd := ite_f c2 hd
    by_cases c5 : q1 = (102 : Int32)
    · replace hd := ite_t c5 hd
      refine lv_lookup (off := 38) (tgt := 69) hx hb dX7_readsOrder_31 (by decide) (by rw [c5]; rfl) (by decide) ?_
      refine lv_aload_n hx hb dX7_readsOrder_69 rfl (lv_at hl 0 rfl) ?_
      obtain ⟨q6, hq6, hd⟩ := bnd_some hd
      have hPc : va_P (dC, dI) vwCl [(h0, .inr (7, [.ref h1, .ref h2, .int v_recorded, .ref h3, .ref h4, .ref h5, .int v_padLength, .ref h6, .int (v_at + (1 : Int32)), .int q1, .int v_hasUnder, .ref h7, .int (0 : Int32)])), (h5, .inl (cI, 80, .inl v_pad)), (h7, .inl (cI, 44, .inl v_numbers))] _ := hP.sub [0, 1, 2] rfl
      have hDc := hD.sub (ws' := [(h0, .inr (7, [.ref h1, .ref h2, .int v_recorded, .ref h3, .ref h4, .ref h5, .int v_padLength, .ref h6, .int (v_at + (1 : Int32)), .int q1, .int v_hasUnder, .ref h7, .int (0 : Int32)])), (h5, .inl (cI, 80, .inl v_pad)), (h7, .inl (cI, 44, .inl v_numbers))]) [0, 1, 2] (by decide) rfl
      have hFc := va_free (wc := [(h0, .inr (7, [.ref h1, .ref h2, .int v_recorded, .ref h3, .ref h4, .ref h5, .int v_padLength, .ref h6, .int (v_at + (1 : Int32)), .int q1, .int v_hasUnder, .ref h7, .int (0 : Int32)])), (h5, .inl (cI, 80, .inl v_pad)), (h7, .inl (cI, 44, .inl v_numbers))]) hD hS hA [0, 1, 2] rfl
      refine va_calli (va_runV (As := []) (rest := []) ⟨hx, hb, hml, hown, hts⟩ (c_X7_takesNumber l dC dI cI cC cT h0 h1 h2 h3 h4 h5 h6 h7 H.size v_recorded v_pad v_padLength (v_at + (1 : Int32)) q1 v_hasUnder v_numbers (0 : Int32) q6 hq6) (cwV 0 hts gX7_readsOrder_X7_takesNumber rfl rfl rfl hv_X7_takesNumber ⟨Nat.le_of_ble_eq_true rfl, Nat.le_of_ble_eq_true rfl⟩) ⟨preB_fb, va_recv hK hPc (ci := 7) (q0 := 0) rfl rfl, fun U hU hW => preB_mk hU hW hPc hK hDc hN⟩ rfl rfl hl.1 rfl (lv_room (Nat.le_of_ble_eq_true rfl)) dX7_readsOrder_70 ⟨Nat.zero_le _, Nat.zero_le _⟩) hS (fun q _ h => hFc q h) hFc (fun r_ u_ t H locs ht hvm hw hB hz1 hk1 hS => ?_)
      have hw : r_ = q6.1 := hw
      have hw := hw.symm
      subst hw
      obtain ⟨hP, hD⟩ := x_join (ws' := [(h0, .inr (7, [.ref h1, .ref h2, .int v_recorded, .ref h3, .ref h4, .ref h5, .int v_padLength, .ref h6, .int q6.2.1, .int q1, .int v_hasUnder, .ref h7, .int q6.2.2.2])), (h5, .inl (cI, 80, .inl v_pad)), (h7, .inl (cI, 44, .inl q6.2.2.1))]) hP hD [0, 1, 2] [] rfl rfl (by decide) (by decide) hk1 hFc ht hB [0, 1, 2] (by decide) rfl
      clear hPc hDc hFc hk1 hB ht hz1 hvm
      refine lv_if_eq (tgt := 112) hx hb dX7_readsOrder_73 (by decide) (fun c7 => ?_) (fun c7 => ?_)
      · replace hd := ite_t c7 hd
        refine lv_iconst (v := 0) hx hb dX7_readsOrder_112 (by decide) ?_
        cases hd
        exact hend (by rfl) (by rfl) hP hD hS dX7_readsOrder_113
      · replace hd := ite_f c7 hd
        refine lv_aload_n hx hb dX7_readsOrder_76 rfl (lv_at hl 0 rfl) ?_
        refine lv_bipush (v := 45) hx hb dX7_readsOrder_77 (by decide) ?_
        obtain ⟨q8, hq8, hd⟩ := bnd_some hd
        have hPc : va_P (dC, dI) vwCl [(h0, .inr (7, [.ref h1, .ref h2, .int v_recorded, .ref h3, .ref h4, .ref h5, .int v_padLength, .ref h6, .int q6.2.1, .int q1, .int v_hasUnder, .ref h7, .int q6.2.2.2])), (h5, .inl (cI, 80, .inl v_pad))] _ := hP.sub [0, 1] rfl
        have hDc := hD.sub (ws' := [(h0, .inr (7, [.ref h1, .ref h2, .int v_recorded, .ref h3, .ref h4, .ref h5, .int v_padLength, .ref h6, .int q6.2.1, .int q1, .int v_hasUnder, .ref h7, .int q6.2.2.2])), (h5, .inl (cI, 80, .inl v_pad))]) [0, 1] (by decide) rfl
        have hFc := va_free (wc := [(h0, .inr (7, [.ref h1, .ref h2, .int v_recorded, .ref h3, .ref h4, .ref h5, .int v_padLength, .ref h6, .int q6.2.1, .int q1, .int v_hasUnder, .ref h7, .int q6.2.2.2])), (h5, .inl (cI, 80, .inl v_pad))]) hD hS hA [0, 1] rfl
        refine va_calli (va_runV (As := [.int (45 : Int32)]) (rest := []) ⟨hx, hb, hml, hown, hts⟩ (c_X7_isNext l dC dI cI cC cT h0 h1 h2 h3 h4 h5 h6 h7 H.size v_recorded v_pad v_padLength q6.2.1 q1 v_hasUnder q6.2.2.2 (45 : Int32) q8 hq8) (cwV 1 hts gX7_readsOrder_X7_isNext rfl rfl rfl hv_X7_isNext ⟨Nat.le_of_ble_eq_true rfl, Nat.le_of_ble_eq_true rfl⟩) ⟨preB_fb, va_recv hK hPc (ci := 7) (q0 := 0) rfl rfl, fun U hU hW => preB_mk hU hW hPc hK hDc hN⟩ rfl rfl hl.1 rfl (lv_room (Nat.le_of_ble_eq_true rfl)) dX7_readsOrder_79 ⟨Nat.zero_le _, Nat.zero_le _⟩) hS (fun q _ h => hFc q h) hFc (fun r_ u_ t H locs ht hvm hw hB hz1 hk1 hS => ?_)
        have hw : r_ = q8.1 := hw
        have hw := hw.symm
        subst hw
        obtain ⟨hP, hD⟩ := x_join (ws' := [(h0, .inr (7, [.ref h1, .ref h2, .int v_recorded, .ref h3, .ref h4, .ref h5, .int v_padLength, .ref h6, .int q8.2, .int q1, .int v_hasUnder, .ref h7, .int q6.2.2.2])), (h5, .inl (cI, 80, .inl v_pad)), (h7, .inl (cI, 44, .inl q6.2.2.1))]) hP hD [0, 1] [2] rfl rfl (by decide) (by decide) hk1 hFc ht hB [1, 2, 0] (by decide) rfl
        clear hPc hDc hFc hk1 hB ht hz1 hvm
        refine lv_if_eq (tgt := 112) hx hb dX7_readsOrder_82 (by decide) (fun c9 => ?_) (fun c9 => ?_)
        · replace hd := ite_t c9 hd
          refine lv_iconst (v := 0) hx hb dX7_readsOrder_112 (by decide) ?_
          cases hd
          exact hend (by rfl) (by rfl) hP hD hS dX7_readsOrder_113
        · replace hd := ite_f c9 hd
          refine lv_aload_n hx hb dX7_readsOrder_85 rfl (lv_at hl 0 rfl) ?_
          obtain ⟨q10, hq10, hd⟩ := bnd_some hd
          have hPc : va_P (dC, dI) vwCl [(h0, .inr (7, [.ref h1, .ref h2, .int v_recorded, .ref h3, .ref h4, .ref h5, .int v_padLength, .ref h6, .int q8.2, .int q1, .int v_hasUnder, .ref h7, .int q6.2.2.2])), (h5, .inl (cI, 80, .inl v_pad)), (h7, .inl (cI, 44, .inl q6.2.2.1))] _ := hP.sub [0, 1, 2] rfl
          have hDc := hD.sub (ws' := [(h0, .inr (7, [.ref h1, .ref h2, .int v_recorded, .ref h3, .ref h4, .ref h5, .int v_padLength, .ref h6, .int q8.2, .int q1, .int v_hasUnder, .ref h7, .int q6.2.2.2])), (h5, .inl (cI, 80, .inl v_pad)), (h7, .inl (cI, 44, .inl q6.2.2.1))]) [0, 1, 2] (by decide) rfl
          have hFc := va_free (wc := [(h0, .inr (7, [.ref h1, .ref h2, .int v_recorded, .ref h3, .ref h4, .ref h5, .int v_padLength, .ref h6, .int q8.2, .int q1, .int v_hasUnder, .ref h7, .int q6.2.2.2])), (h5, .inl (cI, 80, .inl v_pad)), (h7, .inl (cI, 44, .inl q6.2.2.1))]) hD hS hA [0, 1, 2] rfl
          refine va_calli (va_runV (As := []) (rest := []) ⟨hx, hb, hml, hown, hts⟩ (c_X7_takesNumber l dC dI cI cC cT h0 h1 h2 h3 h4 h5 h6 h7 H.size v_recorded v_pad v_padLength q8.2 q1 v_hasUnder q6.2.2.1 q6.2.2.2 q10 hq10) (cwV 0 hts gX7_readsOrder_X7_takesNumber rfl rfl rfl hv_X7_takesNumber ⟨Nat.le_of_ble_eq_true rfl, Nat.le_of_ble_eq_true rfl⟩) ⟨preB_fb, va_recv hK hPc (ci := 7) (q0 := 0) rfl rfl, fun U hU hW => preB_mk hU hW hPc hK hDc hN⟩ rfl rfl hl.1 rfl (lv_room (Nat.le_of_ble_eq_true rfl)) dX7_readsOrder_86 ⟨Nat.zero_le _, Nat.zero_le _⟩) hS (fun q _ h => hFc q h) hFc (fun r_ u_ t H locs ht hvm hw hB hz1 hk1 hS => ?_)
          have hw : r_ = q10.1 := hw
          have hw := hw.symm
          subst hw
          obtain ⟨hP, hD⟩ := x_join (ws' := [(h0, .inr (7, [.ref h1, .ref h2, .int v_recorded, .ref h3, .ref h4, .ref h5, .int v_padLength, .ref h6, .int q10.2.1, .int q1, .int v_hasUnder, .ref h7, .int q10.2.2.2])), (h5, .inl (cI, 80, .inl v_pad)), (h7, .inl (cI, 44, .inl q10.2.2.1))]) hP hD [0, 1, 2] [] rfl rfl (by decide) (by decide) hk1 hFc ht hB [0, 1, 2] (by decide) rfl
          clear hPc hDc hFc hk1 hB ht hz1 hvm
          refine lv_if_eq (tgt := 112) hx hb dX7_readsOrder_89 (by decide) (fun c11 => ?_) (fun c11 => ?_)
          · replace hd := ite_t c11 hd
            refine lv_iconst (v := 0) hx hb dX7_readsOrder_112 (by decide) ?_
            cases hd
            exact hend (by rfl) (by rfl) hP hD hS dX7_readsOrder_113
          · replace hd := ite_f c11 hd
            refine lv_aload_n hx hb dX7_readsOrder_92 rfl (lv_at hl 0 rfl) ?_
            refine lv_bipush (v := 61) hx hb dX7_readsOrder_93 (by decide) ?_
            obtain ⟨q12, hq12, hd⟩ := bnd_some hd
            have hPc : va_P (dC, dI) vwCl [(h0, .inr (7, [.ref h1, .ref h2, .int v_recorded, .ref h3, .ref h4, .ref h5, .int v_padLength, .ref h6, .int q10.2.1, .int q1, .int v_hasUnder, .ref h7, .int q10.2.2.2])), (h5, .inl (cI, 80, .inl v_pad))] _ := hP.sub [0, 1] rfl
            have hDc := hD.sub (ws' := [(h0, .inr (7, [.ref h1, .ref h2, .int v_recorded, .ref h3, .ref h4, .ref h5, .int v_padLength, .ref h6, .int q10.2.1, .int q1, .int v_hasUnder, .ref h7, .int q10.2.2.2])), (h5, .inl (cI, 80, .inl v_pad))]) [0, 1] (by decide) rfl
            have hFc := va_free (wc := [(h0, .inr (7, [.ref h1, .ref h2, .int v_recorded, .ref h3, .ref h4, .ref h5, .int v_padLength, .ref h6, .int q10.2.1, .int q1, .int v_hasUnder, .ref h7, .int q10.2.2.2])), (h5, .inl (cI, 80, .inl v_pad))]) hD hS hA [0, 1] rfl
            refine va_calli (va_runV (As := [.int (61 : Int32)]) (rest := []) ⟨hx, hb, hml, hown, hts⟩ (c_X7_isNext l dC dI cI cC cT h0 h1 h2 h3 h4 h5 h6 h7 H.size v_recorded v_pad v_padLength q10.2.1 q1 v_hasUnder q10.2.2.2 (61 : Int32) q12 hq12) (cwV 1 hts gX7_readsOrder_X7_isNext rfl rfl rfl hv_X7_isNext ⟨Nat.le_of_ble_eq_true rfl, Nat.le_of_ble_eq_true rfl⟩) ⟨preB_fb, va_recv hK hPc (ci := 7) (q0 := 0) rfl rfl, fun U hU hW => preB_mk hU hW hPc hK hDc hN⟩ rfl rfl hl.1 rfl (lv_room (Nat.le_of_ble_eq_true rfl)) dX7_readsOrder_95 ⟨Nat.zero_le _, Nat.zero_le _⟩) hS (fun q _ h => hFc q h) hFc (fun r_ u_ t H locs ht hvm hw hB hz1 hk1 hS => ?_)
            have hw : r_ = q12.1 := hw
            have hw := hw.symm
            subst hw
            obtain ⟨hP, hD⟩ := x_join (ws' := [(h0, .inr (7, [.ref h1, .ref h2, .int v_recorded, .ref h3, .ref h4, .ref h5, .int v_padLength, .ref h6, .int q12.2, .int q1, .int v_hasUnder, .ref h7, .int q10.2.2.2])), (h5, .inl (cI, 80, .inl v_pad)), (h7, .inl (cI, 44, .inl q10.2.2.1))]) hP hD [0, 1] [2] rfl rfl (by decide) (by decide) hk1 hFc ht hB [1, 2, 0] (by decide) rfl
            clear hPc hDc hFc hk1 hB ht hz1 hvm
            refine lv_if_eq (tgt := 112) hx hb dX7_readsOrder_98 (by decide) (fun c13 => ?_) (fun c13 => ?_)
            · replace hd := ite_t c13 hd
              refine lv_iconst (v := 0) hx hb dX7_readsOrder_112 (by decide) ?_
              cases hd
              exact hend (by rfl) (by rfl) hP hD hS dX7_readsOrder_113
            · replace hd := ite_f c13 hd
              refine lv_aload_n hx hb dX7_readsOrder_101 rfl (lv_at hl 0 rfl) ?_
              obtain ⟨q14, hq14, hd⟩ := bnd_some hd
              have hPc : va_P (dC, dI) vwCl [(h0, .inr (7, [.ref h1, .ref h2, .int v_recorded, .ref h3, .ref h4, .ref h5, .int v_padLength, .ref h6, .int q12.2, .int q1, .int v_hasUnder, .ref h7, .int q10.2.2.2])), (h5, .inl (cI, 80, .inl v_pad)), (h7, .inl (cI, 44, .inl q10.2.2.1))] _ := hP.sub [0, 1, 2] rfl
              have hDc := hD.sub (ws' := [(h0, .inr (7, [.ref h1, .ref h2, .int v_recorded, .ref h3, .ref h4, .ref h5, .int v_padLength, .ref h6, .int q12.2, .int q1, .int v_hasUnder, .ref h7, .int q10.2.2.2])), (h5, .inl (cI, 80, .inl v_pad)), (h7, .inl (cI, 44, .inl q10.2.2.1))]) [0, 1, 2] (by decide) rfl
              have hFc := va_free (wc := [(h0, .inr (7, [.ref h1, .ref h2, .int v_recorded, .ref h3, .ref h4, .ref h5, .int v_padLength, .ref h6, .int q12.2, .int q1, .int v_hasUnder, .ref h7, .int q10.2.2.2])), (h5, .inl (cI, 80, .inl v_pad)), (h7, .inl (cI, 44, .inl q10.2.2.1))]) hD hS hA [0, 1, 2] rfl
              refine va_calli (va_runV (As := []) (rest := []) ⟨hx, hb, hml, hown, hts⟩ (c_X7_takesNumber l dC dI cI cC cT h0 h1 h2 h3 h4 h5 h6 h7 H.size v_recorded v_pad v_padLength q12.2 q1 v_hasUnder q10.2.2.1 q10.2.2.2 q14 hq14) (cwV 0 hts gX7_readsOrder_X7_takesNumber rfl rfl rfl hv_X7_takesNumber ⟨Nat.le_of_ble_eq_true rfl, Nat.le_of_ble_eq_true rfl⟩) ⟨preB_fb, va_recv hK hPc (ci := 7) (q0 := 0) rfl rfl, fun U hU hW => preB_mk hU hW hPc hK hDc hN⟩ rfl rfl hl.1 rfl (lv_room (Nat.le_of_ble_eq_true rfl)) dX7_readsOrder_102 ⟨Nat.zero_le _, Nat.zero_le _⟩) hS (fun q _ h => hFc q h) hFc (fun r_ u_ t H locs ht hvm hw hB hz1 hk1 hS => ?_)
              have hw : r_ = q14.1 := hw
              have hw := hw.symm
              subst hw
              obtain ⟨hP, hD⟩ := x_join (ws' := [(h0, .inr (7, [.ref h1, .ref h2, .int v_recorded, .ref h3, .ref h4, .ref h5, .int v_padLength, .ref h6, .int q14.2.1, .int q1, .int v_hasUnder, .ref h7, .int q14.2.2.2])), (h5, .inl (cI, 80, .inl v_pad)), (h7, .inl (cI, 44, .inl q14.2.2.1))]) hP hD [0, 1, 2] [] rfl rfl (by decide) (by decide) hk1 hFc ht hB [0, 1, 2] (by decide) rfl
              clear hPc hDc hFc hk1 hB ht hz1 hvm
              refine lv_if_eq (tgt := 112) hx hb dX7_readsOrder_105 (by decide) (fun c15 => ?_) (fun c15 => ?_)
              · replace hd := ite_t c15 hd
                refine lv_iconst (v := 0) hx hb dX7_readsOrder_112 (by decide) ?_
                cases hd
                exact hend (by rfl) (by rfl) hP hD hS dX7_readsOrder_113
              · replace hd := ite_f c15 hd
                refine lv_iconst (v := 1) hx hb dX7_readsOrder_108 (by decide) ?_
                refine lv_goto (tgt := 113) hx hb dX7_readsOrder_109 (by decide) ?_
                cases hd
                exact hend (by rfl) (by rfl) hP hD hS dX7_readsOrder_113
    · replace hd := ite_f c5 hd
      by_cases c16 : q1 = (120 : Int32)
      · replace hd := ite_t c16 hd
        refine lv_lookup (off := 83) (tgt := 114) hx hb dX7_readsOrder_31 (by decide) (by rw [c16]; rfl) (by decide) ?_
        refine lv_aload_n hx hb dX7_readsOrder_114 rfl (lv_at hl 0 rfl) ?_
        obtain ⟨q17, hq17, hd⟩ := bnd_some hd
        have hPc : va_P (dC, dI) vwCl [(h0, .inr (7, [.ref h1, .ref h2, .int v_recorded, .ref h3, .ref h4, .ref h5, .int v_padLength, .ref h6, .int (v_at + (1 : Int32)), .int q1, .int v_hasUnder, .ref h7, .int (0 : Int32)])), (h5, .inl (cI, 80, .inl v_pad)), (h7, .inl (cI, 44, .inl v_numbers))] _ := hP.sub [0, 1, 2] rfl
        have hDc := hD.sub (ws' := [(h0, .inr (7, [.ref h1, .ref h2, .int v_recorded, .ref h3, .ref h4, .ref h5, .int v_padLength, .ref h6, .int (v_at + (1 : Int32)), .int q1, .int v_hasUnder, .ref h7, .int (0 : Int32)])), (h5, .inl (cI, 80, .inl v_pad)), (h7, .inl (cI, 44, .inl v_numbers))]) [0, 1, 2] (by decide) rfl
        have hFc := va_free (wc := [(h0, .inr (7, [.ref h1, .ref h2, .int v_recorded, .ref h3, .ref h4, .ref h5, .int v_padLength, .ref h6, .int (v_at + (1 : Int32)), .int q1, .int v_hasUnder, .ref h7, .int (0 : Int32)])), (h5, .inl (cI, 80, .inl v_pad)), (h7, .inl (cI, 44, .inl v_numbers))]) hD hS hA [0, 1, 2] rfl
        refine va_calli (va_runV (As := []) (rest := []) ⟨hx, hb, hml, hown, hts⟩ (c_X7_takesNumber l dC dI cI cC cT h0 h1 h2 h3 h4 h5 h6 h7 H.size v_recorded v_pad v_padLength (v_at + (1 : Int32)) q1 v_hasUnder v_numbers (0 : Int32) q17 hq17) (cwV 0 hts gX7_readsOrder_X7_takesNumber rfl rfl rfl hv_X7_takesNumber ⟨Nat.le_of_ble_eq_true rfl, Nat.le_of_ble_eq_true rfl⟩) ⟨preB_fb, va_recv hK hPc (ci := 7) (q0 := 0) rfl rfl, fun U hU hW => preB_mk hU hW hPc hK hDc hN⟩ rfl rfl hl.1 rfl (lv_room (Nat.le_of_ble_eq_true rfl)) dX7_readsOrder_115 ⟨Nat.zero_le _, Nat.zero_le _⟩) hS (fun q _ h => hFc q h) hFc (fun r_ u_ t H locs ht hvm hw hB hz1 hk1 hS => ?_)
        have hw : r_ = q17.1 := hw
        have hw := hw.symm
        subst hw
        obtain ⟨hP, hD⟩ := x_join (ws' := [(h0, .inr (7, [.ref h1, .ref h2, .int v_recorded, .ref h3, .ref h4, .ref h5, .int v_padLength, .ref h6, .int q17.2.1, .int q1, .int v_hasUnder, .ref h7, .int q17.2.2.2])), (h5, .inl (cI, 80, .inl v_pad)), (h7, .inl (cI, 44, .inl q17.2.2.1))]) hP hD [0, 1, 2] [] rfl rfl (by decide) (by decide) hk1 hFc ht hB [0, 1, 2] (by decide) rfl
        clear hPc hDc hFc hk1 hB ht hz1 hvm
        obtain ⟨g18, hd⟩ := gd_some hd
        cases hd
        exact hend (by rfl) (z_nar g18) hP hD hS dX7_readsOrder_118
      · replace hd := ite_f c16 hd
        refine lv_lookup (off := 88) (tgt := 119) hx hb dX7_readsOrder_31 (by decide) (Eq.trans (lv_osw (a := 43) c2 (by decide)) (Eq.trans (lv_osw (a := 102) c5 (by decide)) (Eq.trans (lv_osw (a := 120) c16 (by decide)) rfl))) (by decide) ?_
        refine lv_aload_n hx hb dX7_readsOrder_119 rfl (lv_at hl 0 rfl) ?_
        refine lv_dup hx hb dX7_readsOrder_120 rfl ?_
        refine va_get (D := (dC, dI)) (ci := 7) (v := .int (v_at + (1 : Int32))) (C := RX7) (T := TX7) (N := 13) hx hb hts inX7_readsOrder_X7 hown hK hP 0 rfl rfl 8 (by decide) (hts _ kX7_readsOrder_2) (fun _ h9 => h9) rfl dX7_readsOrder_121 ?_
        refine lv_iconst (v := 1) hx hb dX7_readsOrder_124 (by decide) ?_
        refine lv_isub hx hb dX7_readsOrder_125 ?_
        refine va_put (D := (dC, dI)) (ci := 7) (v := .int ((v_at + (1 : Int32)) - (1 : Int32))) (ty := .int) (C := RX7) (T := TX7) (N := 13) hx hb hts inX7_readsOrder_X7 tyX7 tyX7_ok nmX7 hown hK hP hD hS 0 rfl rfl 8 (by decide) (hts _ kX7_readsOrder_2) (fun _ h9 => h9) rfl (by decide +kernel) rfl rfl (Nat.le_of_ble_eq_true rfl) dX7_readsOrder_126 (fun H locs hP hD hS => ?_)
        have hP : va_P (dC, dI) vwCl [(h0, .inr (7, [.ref h1, .ref h2, .int v_recorded, .ref h3, .ref h4, .ref h5, .int v_padLength, .ref h6, .int ((v_at + (1 : Int32)) - (1 : Int32)), .int q1, .int v_hasUnder, .ref h7, .int (0 : Int32)])), (h5, .inl (cI, 80, .inl v_pad)), (h7, .inl (cI, 44, .inl v_numbers))] H := hP
        have hD : va_D A [(h0, .inr (7, [.ref h1, .ref h2, .int v_recorded, .ref h3, .ref h4, .ref h5, .int v_padLength, .ref h6, .int ((v_at + (1 : Int32)) - (1 : Int32)), .int q1, .int v_hasUnder, .ref h7, .int (0 : Int32)])), (h5, .inl (cI, 80, .inl v_pad)), (h7, .inl (cI, 44, .inl v_numbers))] := hD
        refine lv_iconst (v := 0) hx hb dX7_readsOrder_129 (by decide) ?_
        cases hd
        exact hend (by rfl) (by rfl) hP hD hS dX7_readsOrder_130
def rmX7_findFault : Room := { frames := 6, cells := 0, slots := 0, locals := 125 }
theorem kX7_findFault_1 : (Cond.fieldLink RX7 177 "CassetteTonesModel" "at" "I") ∈ wsX7_findFault := List.mem_of_getElem? (i := 1) (by decide +kernel)
theorem kX7_findFault_2 : (Cond.fieldLink RX7 162 "CassetteTonesModel" "padLength" "I") ∈ wsX7_findFault := List.mem_of_getElem? (i := 2) (by decide +kernel)
theorem inX7_findFault_X7 : ∀ w ∈ wsX70, w ∈ wsX7_findFault := by decide +kernel
theorem hp_X7_findFault : yX7_findFault.cls ≠ "java/lang/invoke/MethodHandle" ∧ yX7_findFault.cls ≠ "java/lang/invoke/VarHandle" ∧ (parseMethodDescriptor yX7_findFault.desc).map (fun d => d.parameters.length) = some 0 := by decide +kernel
theorem hv_X7_findFault : yX7_findFault.cls = RX7 ∧ yX7_findFault.cls ≠ "java/lang/invoke/MethodHandle" ∧ yX7_findFault.cls ≠ "java/lang/invoke/VarHandle" ∧ (parseMethodDescriptor yX7_findFault.desc).map (fun d => d.parameters.length) = some 0 := by decide +kernel
set_option maxHeartbeats 4000000 in
set_option maxRecDepth 100000 in
theorem c_X7_findFault (l : Launch) (dC : Nat → ClassId) (dI : Nat → Nat → Nat) (cI cC cT : ClassId) (h0 h1 h2 h3 h4 h5 h6 h7 : Nat) (sz : Nat) (v_recorded : Int32) (v_pad : (Nat → Int32)) (v_padLength : Int32) (v_at : Int32) (v_letter : Int32) (v_hasUnder : Int32) (v_numbers : (Nat → Int32)) (v_numbersMany : Int32) (r : (Int32 × Int32 × Int32 × Int32 × (Nat → Int32) × Int32)) (hd : den_X7_findFault v_pad v_padLength v_at v_letter v_hasUnder v_numbers v_numbersMany = some r) : Met l yX7_findFault wsX7_findFault rmX7_findFault (va_Pc [.ref h0] (preB sz (dC, dI) [(h0, .inr (7, [.ref h1, .ref h2, .int v_recorded, .ref h3, .ref h4, .ref h5, .int v_padLength, .ref h6, .int v_at, .int v_letter, .int v_hasUnder, .ref h7, .int v_numbersMany])), (h5, .inl (cI, 80, .inl v_pad)), (h7, .inl (cI, 44, .inl v_numbers))] [(cI, .int), (cC, .char), (cT, .object "CassetteTones$Tape")])) (va_Qi (S := Unit) (fun v _ => v = r.1) (fun _ t => posB (dC, dI) [(h0, .inr (7, [.ref h1, .ref h2, .int v_recorded, .ref h3, .ref h4, .ref h5, .int v_padLength, .ref h6, .int r.2.1, .int r.2.2.1, .int r.2.2.2.1, .ref h7, .int r.2.2.2.2.2])), (h5, .inl (cI, 80, .inl v_pad)), (h7, .inl (cI, 44, .inl r.2.2.2.2.1))] [(cI, .int), (cC, .char), (cT, .object "CassetteTones$Tape")] (va_A [(h0, .inr (7, [.ref h1, .ref h2, .int v_recorded, .ref h3, .ref h4, .ref h5, .int v_padLength, .ref h6, .int v_at, .int v_letter, .int v_hasUnder, .ref h7, .int v_numbersMany])), (h5, .inl (cI, 80, .inl v_pad)), (h7, .inl (cI, 44, .inl v_numbers))] sz) t) (va_A [(h0, .inr (7, [.ref h1, .ref h2, .int v_recorded, .ref h3, .ref h4, .ref h5, .int v_padLength, .ref h6, .int v_at, .int v_letter, .int v_hasUnder, .ref h7, .int v_numbersMany])), (h5, .inl (cI, 80, .inl v_pad)), (h7, .inl (cI, 44, .inl v_numbers))] sz)) 0 0 (va_A [(h0, .inr (7, [.ref h1, .ref h2, .int v_recorded, .ref h3, .ref h4, .ref h5, .int v_padLength, .ref h6, .int v_at, .int v_letter, .int v_hasUnder, .ref h7, .int v_numbersMany])), (h5, .inl (cI, 80, .inl v_pad)), (h7, .inl (cI, 44, .inl v_numbers))] sz) := by
  refine x_met_i (by decide) rfl (Nat.le_of_ble_eq_true rfl) ?_
  intro p e s m args below meth c A Q H locs ls hx hb hml hown hts hK hN hA hP hD hS hl hend
  have hown : s.vm.findClass RX7 = some m.cls := hown
  have hl : lv_has ls 1 [(0, .ref h0)] := hl
  unfold den_X7_findFault at hd
  refine lv_aload_n hx hb dX7_findFault_0 rfl (lv_at hl 0 rfl) ?_
  refine lv_iconst (v := 0) hx hb dX7_findFault_1 (by decide) ?_
  refine va_put (D := (dC, dI)) (ci := 7) (v := .int (0 : Int32)) (ty := .int) (C := RX7) (T := TX7) (N := 13) hx hb hts inX7_findFault_X7 tyX7 tyX7_ok nmX7 hown hK hP hD hS 0 rfl rfl 8 (by decide) (hts _ kX7_findFault_1) (fun _ h9 => h9) rfl (by decide +kernel) rfl rfl (Nat.le_of_ble_eq_true rfl) dX7_findFault_2 (fun H locs hP hD hS => ?_)
  have hP : va_P (dC, dI) vwCl [(h0, .inr (7, [.ref h1, .ref h2, .int v_recorded, .ref h3, .ref h4, .ref h5, .int v_padLength, .ref h6, .int (0 : Int32), .int v_letter, .int v_hasUnder, .ref h7, .int v_numbersMany])), (h5, .inl (cI, 80, .inl v_pad)), (h7, .inl (cI, 44, .inl v_numbers))] H := hP
  have hD : va_D A [(h0, .inr (7, [.ref h1, .ref h2, .int v_recorded, .ref h3, .ref h4, .ref h5, .int v_padLength, .ref h6, .int (0 : Int32), .int v_letter, .int v_hasUnder, .ref h7, .int v_numbersMany])), (h5, .inl (cI, 80, .inl v_pad)), (h7, .inl (cI, 44, .inl v_numbers))] := hD
  have KL6 : ∀ (fu : Nat) (v_at_5 : Int32) (v_letter_5 : Int32) (v_hasUnder_5 : Int32) (v_numbers_5 : (Nat → Int32)) (v_numbersMany_5 : Int32) (hd : den_X7_findFault_L5 v_pad v_padLength fu v_at_5 v_letter_5 v_hasUnder_5 v_numbers_5 v_numbersMany_5 = some r) (H : Heap) (locs : List Loc) (ls : Array Slot), va_P (dC, dI) vwCl [(h0, .inr (7, [.ref h1, .ref h2, .int v_recorded, .ref h3, .ref h4, .ref h5, .int v_padLength, .ref h6, .int v_at_5, .int v_letter_5, .int v_hasUnder_5, .ref h7, .int v_numbersMany_5])), (h5, .inl (cI, 80, .inl v_pad)), (h7, .inl (cI, 44, .inl v_numbers_5))] H → va_D A [(h0, .inr (7, [.ref h1, .ref h2, .int v_recorded, .ref h3, .ref h4, .ref h5, .int v_padLength, .ref h6, .int v_at_5, .int v_letter_5, .int v_hasUnder_5, .ref h7, .int v_numbersMany_5])), (h5, .inl (cI, 80, .inl v_pad)), (h7, .inl (cI, 44, .inl v_numbers_5))] → va_S A s.heap H locs → lv_has ls 1 [(0, .ref h0)] → W p l e rmX7_findFault s m args below meth c H locs 0 0 Q (F0 m 5 ls []) := by
    intro fu
    induction fu with
    | zero => intro v_at_5 v_letter_5 v_hasUnder_5 v_numbers_5 v_numbersMany_5 hd; exact no_some hd
    | succ fu ih =>
      intro v_at_5 v_letter_5 v_hasUnder_5 v_numbers_5 v_numbersMany_5 hd H locs ls hP hD hS hl
      rw [den_X7_findFault_L5] at hd
      refine lv_aload_n hx hb dX7_findFault_5 rfl (lv_at hl 0 rfl) ?_
      obtain ⟨q1, hq1, hd⟩ := bnd_some hd
      have hPc : va_P (dC, dI) vwCl [(h0, .inr (7, [.ref h1, .ref h2, .int v_recorded, .ref h3, .ref h4, .ref h5, .int v_padLength, .ref h6, .int v_at_5, .int v_letter_5, .int v_hasUnder_5, .ref h7, .int v_numbersMany_5])), (h5, .inl (cI, 80, .inl v_pad)), (h7, .inl (cI, 44, .inl v_numbers_5))] _ := hP.sub [0, 1, 2] rfl
      have hDc := hD.sub (ws' := [(h0, .inr (7, [.ref h1, .ref h2, .int v_recorded, .ref h3, .ref h4, .ref h5, .int v_padLength, .ref h6, .int v_at_5, .int v_letter_5, .int v_hasUnder_5, .ref h7, .int v_numbersMany_5])), (h5, .inl (cI, 80, .inl v_pad)), (h7, .inl (cI, 44, .inl v_numbers_5))]) [0, 1, 2] (by decide) rfl
      have hFc := va_free (wc := [(h0, .inr (7, [.ref h1, .ref h2, .int v_recorded, .ref h3, .ref h4, .ref h5, .int v_padLength, .ref h6, .int v_at_5, .int v_letter_5, .int v_hasUnder_5, .ref h7, .int v_numbersMany_5])), (h5, .inl (cI, 80, .inl v_pad)), (h7, .inl (cI, 44, .inl v_numbers_5))]) hD hS hA [0, 1, 2] rfl
      refine va_calli (va_runV (As := []) (rest := []) ⟨hx, hb, hml, hown, hts⟩ (c_X7_readsOrder l dC dI cI cC cT h0 h1 h2 h3 h4 h5 h6 h7 H.size v_recorded v_pad v_padLength v_at_5 v_letter_5 v_hasUnder_5 v_numbers_5 v_numbersMany_5 q1 hq1) (cwV 0 hts gX7_findFault_X7_readsOrder rfl rfl rfl hv_X7_readsOrder ⟨Nat.le_of_ble_eq_true rfl, Nat.le_of_ble_eq_true rfl⟩) ⟨preB_fb, va_recv hK hPc (ci := 7) (q0 := 0) rfl rfl, fun U hU hW => preB_mk hU hW hPc hK hDc hN⟩ rfl rfl hl.1 rfl (lv_room (Nat.le_of_ble_eq_true rfl)) dX7_findFault_6 ⟨Nat.zero_le _, Nat.zero_le _⟩) hS (fun q _ h => hFc q h) hFc (fun r_ u_ t H locs ht hvm hw hB hz1 hk1 hS => ?_)
      have hw : r_ = q1.1 := hw
      have hw := hw.symm
      subst hw
      obtain ⟨hP, hD⟩ := x_join (ws' := [(h0, .inr (7, [.ref h1, .ref h2, .int v_recorded, .ref h3, .ref h4, .ref h5, .int v_padLength, .ref h6, .int q1.2.1, .int q1.2.2.1, .int q1.2.2.2.1, .ref h7, .int q1.2.2.2.2.2])), (h5, .inl (cI, 80, .inl v_pad)), (h7, .inl (cI, 44, .inl q1.2.2.2.2.1))]) hP hD [0, 1, 2] [] rfl rfl (by decide) (by decide) hk1 hFc ht hB [0, 1, 2] (by decide) rfl
      clear hPc hDc hFc hk1 hB ht hz1 hvm
      refine lv_if_ne (tgt := 17) hx hb dX7_findFault_9 (by decide) (fun c2 => ?_) (fun c2 => ?_)
      · replace hd := ite_f c2 hd
        refine lv_aload_n hx hb dX7_findFault_17 rfl (lv_at hl 0 rfl) ?_
        refine va_get (D := (dC, dI)) (ci := 7) (v := .int q1.2.1) (C := RX7) (T := TX7) (N := 13) hx hb hts inX7_findFault_X7 hown hK hP 0 rfl rfl 8 (by decide) (hts _ kX7_findFault_1) (fun _ h9 => h9) rfl dX7_findFault_18 ?_
        refine lv_aload_n hx hb dX7_findFault_21 rfl (lv_at hl 0 rfl) ?_
        refine va_get (D := (dC, dI)) (ci := 7) (v := .int v_padLength) (C := RX7) (T := TX7) (N := 13) hx hb hts inX7_findFault_X7 hown hK hP 0 rfl rfl 6 (by decide) (hts _ kX7_findFault_2) (fun _ h9 => h9) rfl dX7_findFault_22 ?_
        refine lv_icmp_ne (tgt := 31) hx hb dX7_findFault_25 (by decide) (fun c3 => ?_) (fun c3 => ?_)
        · replace hd := ite_f c3 hd
          refine lv_aload_n hx hb dX7_findFault_31 rfl (lv_at hl 0 rfl) ?_
          refine lv_bipush (v := 59) hx hb dX7_findFault_32 (by decide) ?_
          obtain ⟨q4, hq4, hd⟩ := bnd_some hd
          have hPc : va_P (dC, dI) vwCl [(h0, .inr (7, [.ref h1, .ref h2, .int v_recorded, .ref h3, .ref h4, .ref h5, .int v_padLength, .ref h6, .int q1.2.1, .int q1.2.2.1, .int q1.2.2.2.1, .ref h7, .int q1.2.2.2.2.2])), (h5, .inl (cI, 80, .inl v_pad))] _ := hP.sub [0, 1] rfl
          have hDc := hD.sub (ws' := [(h0, .inr (7, [.ref h1, .ref h2, .int v_recorded, .ref h3, .ref h4, .ref h5, .int v_padLength, .ref h6, .int q1.2.1, .int q1.2.2.1, .int q1.2.2.2.1, .ref h7, .int q1.2.2.2.2.2])), (h5, .inl (cI, 80, .inl v_pad))]) [0, 1] (by decide) rfl
          have hFc := va_free (wc := [(h0, .inr (7, [.ref h1, .ref h2, .int v_recorded, .ref h3, .ref h4, .ref h5, .int v_padLength, .ref h6, .int q1.2.1, .int q1.2.2.1, .int q1.2.2.2.1, .ref h7, .int q1.2.2.2.2.2])), (h5, .inl (cI, 80, .inl v_pad))]) hD hS hA [0, 1] rfl
          refine va_calli (va_runV (As := [.int (59 : Int32)]) (rest := []) ⟨hx, hb, hml, hown, hts⟩ (c_X7_isNext l dC dI cI cC cT h0 h1 h2 h3 h4 h5 h6 h7 H.size v_recorded v_pad v_padLength q1.2.1 q1.2.2.1 q1.2.2.2.1 q1.2.2.2.2.2 (59 : Int32) q4 hq4) (cwV 1 hts gX7_findFault_X7_isNext rfl rfl rfl hv_X7_isNext ⟨Nat.le_of_ble_eq_true rfl, Nat.le_of_ble_eq_true rfl⟩) ⟨preB_fb, va_recv hK hPc (ci := 7) (q0 := 0) rfl rfl, fun U hU hW => preB_mk hU hW hPc hK hDc hN⟩ rfl rfl hl.1 rfl (lv_room (Nat.le_of_ble_eq_true rfl)) dX7_findFault_34 ⟨Nat.zero_le _, Nat.zero_le _⟩) hS (fun q _ h => hFc q h) hFc (fun r_ u_ t H locs ht hvm hw hB hz1 hk1 hS => ?_)
          have hw : r_ = q4.1 := hw
          have hw := hw.symm
          subst hw
          obtain ⟨hP, hD⟩ := x_join (ws' := [(h0, .inr (7, [.ref h1, .ref h2, .int v_recorded, .ref h3, .ref h4, .ref h5, .int v_padLength, .ref h6, .int q4.2, .int q1.2.2.1, .int q1.2.2.2.1, .ref h7, .int q1.2.2.2.2.2])), (h5, .inl (cI, 80, .inl v_pad)), (h7, .inl (cI, 44, .inl q1.2.2.2.2.1))]) hP hD [0, 1] [2] rfl rfl (by decide) (by decide) hk1 hFc ht hB [1, 2, 0] (by decide) rfl
          clear hPc hDc hFc hk1 hB ht hz1 hvm
          refine lv_if_ne (tgt := 5) hx hb dX7_findFault_37 (by decide) (fun c5 => ?_) (fun c5 => ?_)
          · replace hd := ite_f c5 hd
            exact ih q4.2 q1.2.2.1 q1.2.2.2.1 q1.2.2.2.2.1 q1.2.2.2.2.2 hd _ _ _ hP hD hS (lv_sub hl [0] rfl)
          · replace hd := ite_t c5 hd
            refine lv_aload_n hx hb dX7_findFault_40 rfl (lv_at hl 0 rfl) ?_
            refine va_get (D := (dC, dI)) (ci := 7) (v := .int q4.2) (C := RX7) (T := TX7) (N := 13) hx hb hts inX7_findFault_X7 hown hK hP 0 rfl rfl 8 (by decide) (hts _ kX7_findFault_1) (fun _ h9 => h9) rfl dX7_findFault_41 ?_
            cases hd
            exact hend (by rfl) hP hD hS dX7_findFault_44
        · replace hd := ite_t c3 hd
          refine lv_bipush (v := -6) hx hb dX7_findFault_28 (by decide) ?_
          cases hd
          exact hend (by rfl) hP hD hS dX7_findFault_30
      · replace hd := ite_t c2 hd
        refine lv_aload_n hx hb dX7_findFault_12 rfl (lv_at hl 0 rfl) ?_
        refine va_get (D := (dC, dI)) (ci := 7) (v := .int q1.2.1) (C := RX7) (T := TX7) (N := 13) hx hb hts inX7_findFault_X7 hown hK hP 0 rfl rfl 8 (by decide) (hts _ kX7_findFault_1) (fun _ h9 => h9) rfl dX7_findFault_13 ?_
        cases hd
        exact hend (by rfl) hP hD hS dX7_findFault_16
  exact KL6 FU (0 : Int32) v_letter v_hasUnder v_numbers v_numbersMany hd _ _ _ hP hD hS (lv_sub hl [0] rfl)
def rmX7_fault : Room := { frames := 7, cells := 0, slots := 0, locals := 145 }
theorem hp_X7_fault : yX7_fault.cls ≠ "java/lang/invoke/MethodHandle" ∧ yX7_fault.cls ≠ "java/lang/invoke/VarHandle" ∧ (parseMethodDescriptor yX7_fault.desc).map (fun d => d.parameters.length) = some 0 := by decide +kernel
theorem hv_X7_fault : yX7_fault.cls = RX7 ∧ yX7_fault.cls ≠ "java/lang/invoke/MethodHandle" ∧ yX7_fault.cls ≠ "java/lang/invoke/VarHandle" ∧ (parseMethodDescriptor yX7_fault.desc).map (fun d => d.parameters.length) = some 0 := by decide +kernel
set_option maxHeartbeats 4000000 in
set_option maxRecDepth 100000 in
theorem c_X7_fault (l : Launch) (dC : Nat → ClassId) (dI : Nat → Nat → Nat) (cI cC cT : ClassId) (h0 h1 h2 h3 h4 h5 h6 h7 : Nat) (sz : Nat) (v_recorded : Int32) (v_pad : (Nat → Int32)) (v_padLength : Int32) (v_at : Int32) (v_letter : Int32) (v_hasUnder : Int32) (v_numbers : (Nat → Int32)) (v_numbersMany : Int32) (r : (Int32 × Int32 × Int32 × Int32 × (Nat → Int32) × Int32)) (hd : den_X7_fault v_pad v_padLength v_at v_letter v_hasUnder v_numbers v_numbersMany = some r) : Met l yX7_fault wsX7_fault rmX7_fault (va_Pc [.ref h0] (preB sz (dC, dI) [(h0, .inr (7, [.ref h1, .ref h2, .int v_recorded, .ref h3, .ref h4, .ref h5, .int v_padLength, .ref h6, .int v_at, .int v_letter, .int v_hasUnder, .ref h7, .int v_numbersMany])), (h5, .inl (cI, 80, .inl v_pad)), (h7, .inl (cI, 44, .inl v_numbers))] [(cI, .int), (cC, .char), (cT, .object "CassetteTones$Tape")])) (va_Qi (S := Unit) (fun v _ => v = r.1) (fun _ t => posB (dC, dI) [(h0, .inr (7, [.ref h1, .ref h2, .int v_recorded, .ref h3, .ref h4, .ref h5, .int v_padLength, .ref h6, .int r.2.1, .int r.2.2.1, .int r.2.2.2.1, .ref h7, .int r.2.2.2.2.2])), (h5, .inl (cI, 80, .inl v_pad)), (h7, .inl (cI, 44, .inl r.2.2.2.2.1))] [(cI, .int), (cC, .char), (cT, .object "CassetteTones$Tape")] (va_A [(h0, .inr (7, [.ref h1, .ref h2, .int v_recorded, .ref h3, .ref h4, .ref h5, .int v_padLength, .ref h6, .int v_at, .int v_letter, .int v_hasUnder, .ref h7, .int v_numbersMany])), (h5, .inl (cI, 80, .inl v_pad)), (h7, .inl (cI, 44, .inl v_numbers))] sz) t) (va_A [(h0, .inr (7, [.ref h1, .ref h2, .int v_recorded, .ref h3, .ref h4, .ref h5, .int v_padLength, .ref h6, .int v_at, .int v_letter, .int v_hasUnder, .ref h7, .int v_numbersMany])), (h5, .inl (cI, 80, .inl v_pad)), (h7, .inl (cI, 44, .inl v_numbers))] sz)) 0 0 (va_A [(h0, .inr (7, [.ref h1, .ref h2, .int v_recorded, .ref h3, .ref h4, .ref h5, .int v_padLength, .ref h6, .int v_at, .int v_letter, .int v_hasUnder, .ref h7, .int v_numbersMany])), (h5, .inl (cI, 80, .inl v_pad)), (h7, .inl (cI, 44, .inl v_numbers))] sz) := by
  refine x_met_i (by decide) rfl (Nat.le_of_ble_eq_true rfl) ?_
  intro p e s m args below meth c A Q H locs ls hx hb hml hown hts hK hN hA hP hD hS hl hend
  have hown : s.vm.findClass RX7 = some m.cls := hown
  have hl : lv_has ls 1 [(0, .ref h0)] := hl
  unfold den_X7_fault at hd
  refine lv_aload_n hx hb dX7_fault_0 rfl (lv_at hl 0 rfl) ?_
  obtain ⟨q1, hq1, hd⟩ := bnd_some hd
  have hPc : va_P (dC, dI) vwCl [(h0, .inr (7, [.ref h1, .ref h2, .int v_recorded, .ref h3, .ref h4, .ref h5, .int v_padLength, .ref h6, .int v_at, .int v_letter, .int v_hasUnder, .ref h7, .int v_numbersMany])), (h5, .inl (cI, 80, .inl v_pad)), (h7, .inl (cI, 44, .inl v_numbers))] _ := hP.sub [0, 1, 2] rfl
  have hDc := hD.sub (ws' := [(h0, .inr (7, [.ref h1, .ref h2, .int v_recorded, .ref h3, .ref h4, .ref h5, .int v_padLength, .ref h6, .int v_at, .int v_letter, .int v_hasUnder, .ref h7, .int v_numbersMany])), (h5, .inl (cI, 80, .inl v_pad)), (h7, .inl (cI, 44, .inl v_numbers))]) [0, 1, 2] (by decide) rfl
  have hFc := va_free (wc := [(h0, .inr (7, [.ref h1, .ref h2, .int v_recorded, .ref h3, .ref h4, .ref h5, .int v_padLength, .ref h6, .int v_at, .int v_letter, .int v_hasUnder, .ref h7, .int v_numbersMany])), (h5, .inl (cI, 80, .inl v_pad)), (h7, .inl (cI, 44, .inl v_numbers))]) hD hS hA [0, 1, 2] rfl
  refine va_calli (va_runV (As := []) (rest := []) ⟨hx, hb, hml, hown, hts⟩ (c_X7_findFault l dC dI cI cC cT h0 h1 h2 h3 h4 h5 h6 h7 H.size v_recorded v_pad v_padLength v_at v_letter v_hasUnder v_numbers v_numbersMany q1 hq1) (cwV 0 hts gX7_fault_X7_findFault rfl rfl rfl hv_X7_findFault ⟨Nat.le_of_ble_eq_true rfl, Nat.le_of_ble_eq_true rfl⟩) ⟨preB_fb, va_recv hK hPc (ci := 7) (q0 := 0) rfl rfl, fun U hU hW => preB_mk hU hW hPc hK hDc hN⟩ rfl rfl hl.1 rfl (lv_room (Nat.le_of_ble_eq_true rfl)) dX7_fault_1 ⟨Nat.zero_le _, Nat.zero_le _⟩) hS (fun q _ h => hFc q h) hFc (fun r_ u_ t H locs ht hvm hw hB hz1 hk1 hS => ?_)
  have hw : r_ = q1.1 := hw
  have hw := hw.symm
  subst hw
  obtain ⟨hP, hD⟩ := x_join (ws' := [(h0, .inr (7, [.ref h1, .ref h2, .int v_recorded, .ref h3, .ref h4, .ref h5, .int v_padLength, .ref h6, .int q1.2.1, .int q1.2.2.1, .int q1.2.2.2.1, .ref h7, .int q1.2.2.2.2.2])), (h5, .inl (cI, 80, .inl v_pad)), (h7, .inl (cI, 44, .inl q1.2.2.2.2.1))]) hP hD [0, 1, 2] [] rfl rfl (by decide) (by decide) hk1 hFc ht hB [0, 1, 2] (by decide) rfl
  clear hPc hDc hFc hk1 hB ht hz1 hvm
  cases hd
  exact hend (by rfl) hP hD hS dX7_fault_4
def rmX7_doesBlock : Room := { frames := 5, cells := 0, slots := 0, locals := 114 }
theorem kX7_doesBlock_1 : (Cond.fieldLink RX7 196 "CassetteTonesModel" "hasUnder" "Z") ∈ wsX7_doesBlock := List.mem_of_getElem? (i := 1) (by decide +kernel)
theorem kX7_doesBlock_2 : (Cond.fieldLink RX7 187 "CassetteTonesModel" "numbersMany" "I") ∈ wsX7_doesBlock := List.mem_of_getElem? (i := 2) (by decide +kernel)
theorem kX7_doesBlock_3 : (Cond.fieldLink RX7 28 "CassetteTonesModel" "numbers" "[I") ∈ wsX7_doesBlock := List.mem_of_getElem? (i := 3) (by decide +kernel)
theorem kX7_doesBlock_4 : (Cond.fieldLink RX7 25 "CassetteTonesModel" "found" "[I") ∈ wsX7_doesBlock := List.mem_of_getElem? (i := 4) (by decide +kernel)
theorem inX7_doesBlock_X7 : ∀ w ∈ wsX70, w ∈ wsX7_doesBlock := by decide +kernel
theorem hp_X7_doesBlock : yX7_doesBlock.cls ≠ "java/lang/invoke/MethodHandle" ∧ yX7_doesBlock.cls ≠ "java/lang/invoke/VarHandle" ∧ (parseMethodDescriptor yX7_doesBlock.desc).map (fun d => d.parameters.length) = some 0 := by decide +kernel
theorem hv_X7_doesBlock : yX7_doesBlock.cls = RX7 ∧ yX7_doesBlock.cls ≠ "java/lang/invoke/MethodHandle" ∧ yX7_doesBlock.cls ≠ "java/lang/invoke/VarHandle" ∧ (parseMethodDescriptor yX7_doesBlock.desc).map (fun d => d.parameters.length) = some 0 := by decide +kernel
set_option maxHeartbeats 4000000 in
set_option maxRecDepth 100000 in
theorem c_X7_doesBlock (l : Launch) (dC : Nat → ClassId) (dI : Nat → Nat → Nat) (cI cC cT : ClassId) (h0 h1 h2 h3 h4 h5 h6 h7 : Nat) (sz : Nat) (v_state : (Nat → Int32)) (v_recorded : Int32) (v_padLength : Int32) (v_found : (Nat → Int32)) (v_at : Int32) (v_letter : Int32) (v_hasUnder : Int32) (v_numbers : (Nat → Int32)) (v_numbersMany : Int32) (r : (Int32 × (Nat → Int32) × (Nat → Int32))) (hd : den_X7_doesBlock v_state v_found v_hasUnder v_numbers v_numbersMany = some r) : Met l yX7_doesBlock wsX7_doesBlock rmX7_doesBlock (va_Pc [.ref h0] (preB sz (dC, dI) [(h0, .inr (7, [.ref h1, .ref h2, .int v_recorded, .ref h3, .ref h4, .ref h5, .int v_padLength, .ref h6, .int v_at, .int v_letter, .int v_hasUnder, .ref h7, .int v_numbersMany])), (h1, .inl (cI, 2628, .inl v_state)), (h6, .inl (cI, 7, .inl v_found)), (h7, .inl (cI, 44, .inl v_numbers))] [(cI, .int), (cC, .char), (cT, .object "CassetteTones$Tape")])) (va_Qi (S := Unit) (fun v _ => v = r.1) (fun _ t => posB (dC, dI) [(h0, .inr (7, [.ref h1, .ref h2, .int v_recorded, .ref h3, .ref h4, .ref h5, .int v_padLength, .ref h6, .int v_at, .int v_letter, .int v_hasUnder, .ref h7, .int v_numbersMany])), (h1, .inl (cI, 2628, .inl r.2.1)), (h6, .inl (cI, 7, .inl r.2.2)), (h7, .inl (cI, 44, .inl v_numbers))] [(cI, .int), (cC, .char), (cT, .object "CassetteTones$Tape")] (va_A [(h0, .inr (7, [.ref h1, .ref h2, .int v_recorded, .ref h3, .ref h4, .ref h5, .int v_padLength, .ref h6, .int v_at, .int v_letter, .int v_hasUnder, .ref h7, .int v_numbersMany])), (h1, .inl (cI, 2628, .inl v_state)), (h6, .inl (cI, 7, .inl v_found)), (h7, .inl (cI, 44, .inl v_numbers))] sz) t) (va_A [(h0, .inr (7, [.ref h1, .ref h2, .int v_recorded, .ref h3, .ref h4, .ref h5, .int v_padLength, .ref h6, .int v_at, .int v_letter, .int v_hasUnder, .ref h7, .int v_numbersMany])), (h1, .inl (cI, 2628, .inl v_state)), (h6, .inl (cI, 7, .inl v_found)), (h7, .inl (cI, 44, .inl v_numbers))] sz)) 0 0 (va_A [(h0, .inr (7, [.ref h1, .ref h2, .int v_recorded, .ref h3, .ref h4, .ref h5, .int v_padLength, .ref h6, .int v_at, .int v_letter, .int v_hasUnder, .ref h7, .int v_numbersMany])), (h1, .inl (cI, 2628, .inl v_state)), (h6, .inl (cI, 7, .inl v_found)), (h7, .inl (cI, 44, .inl v_numbers))] sz) := by
  refine x_met_z (by decide) rfl (Nat.le_of_ble_eq_true rfl) ?_
  intro p e s m args below meth c A Q H locs ls hx hb hml hown hts hK hN hA hP hD hS hl hend
  have hown : s.vm.findClass RX7 = some m.cls := hown
  have hl : lv_has ls 6 [(0, .ref h0)] := hl
  unfold den_X7_doesBlock at hd
  refine lv_aload_n hx hb dX7_doesBlock_0 rfl (lv_at hl 0 rfl) ?_
  refine va_get (D := (dC, dI)) (ci := 7) (v := .int v_hasUnder) (C := RX7) (T := TX7) (N := 13) hx hb hts inX7_doesBlock_X7 hown hK hP 0 rfl rfl 10 (by decide) (hts _ kX7_doesBlock_1) (fun _ h9 => h9) rfl dX7_doesBlock_1 ?_
  obtain ⟨q1, hq1, hd⟩ := bnd_some hd
  have Kq1 : ∀ (H : Heap) (locs : List Loc) (ls : Array Slot), va_P (dC, dI) vwCl [(h0, .inr (7, [.ref h1, .ref h2, .int v_recorded, .ref h3, .ref h4, .ref h5, .int v_padLength, .ref h6, .int v_at, .int v_letter, .int v_hasUnder, .ref h7, .int v_numbersMany])), (h1, .inl (cI, 2628, .inl v_state)), (h6, .inl (cI, 7, .inl v_found)), (h7, .inl (cI, 44, .inl v_numbers))] H → va_D A [(h0, .inr (7, [.ref h1, .ref h2, .int v_recorded, .ref h3, .ref h4, .ref h5, .int v_padLength, .ref h6, .int v_at, .int v_letter, .int v_hasUnder, .ref h7, .int v_numbersMany])), (h1, .inl (cI, 2628, .inl v_state)), (h6, .inl (cI, 7, .inl v_found)), (h7, .inl (cI, 44, .inl v_numbers))] → va_S A s.heap H locs → lv_has ls 6 [(0, .ref h0)] → W p l e rmX7_doesBlock s m args below meth c H locs 0 0 Q (F0 m 12 ls [.int q1]) := by
    intro H locs ls hP hD hS hl
    refine lv_istore_n (lv' := [(1, .int q1), (0, .ref h0)]) hx hb dX7_doesBlock_12 rfl hl (by decide) rfl (fun ls hl => ?_)
    refine lv_aload_n hx hb dX7_doesBlock_13 rfl (lv_at hl 1 rfl) ?_
    refine va_get (D := (dC, dI)) (ci := 7) (v := .int v_numbersMany) (C := RX7) (T := TX7) (N := 13) hx hb hts inX7_doesBlock_X7 hown hK hP 0 rfl rfl 12 (by decide) (hts _ kX7_doesBlock_2) (fun _ h9 => h9) rfl dX7_doesBlock_14 ?_
    refine lv_iload_n hx hb dX7_doesBlock_17 rfl (lv_at hl 0 rfl) ?_
    refine lv_isub hx hb dX7_doesBlock_18 ?_
    refine lv_istore_n (lv' := [(2, .int (v_numbersMany - q1)), (1, .int q1), (0, .ref h0)]) hx hb dX7_doesBlock_19 rfl hl (by decide) rfl (fun ls hl => ?_)
    refine lv_aload_n hx hb dX7_doesBlock_20 rfl (lv_at hl 2 rfl) ?_
    refine va_get (D := (dC, dI)) (ci := 7) (v := .int v_hasUnder) (C := RX7) (T := TX7) (N := 13) hx hb hts inX7_doesBlock_X7 hown hK hP 0 rfl rfl 10 (by decide) (hts _ kX7_doesBlock_1) (fun _ h9 => h9) rfl dX7_doesBlock_21 ?_
    obtain ⟨q2, hq2, hd⟩ := bnd_some hd
    have Kq2 : ∀ (H : Heap) (locs : List Loc) (ls : Array Slot), va_P (dC, dI) vwCl [(h0, .inr (7, [.ref h1, .ref h2, .int v_recorded, .ref h3, .ref h4, .ref h5, .int v_padLength, .ref h6, .int v_at, .int v_letter, .int v_hasUnder, .ref h7, .int v_numbersMany])), (h1, .inl (cI, 2628, .inl v_state)), (h6, .inl (cI, 7, .inl v_found)), (h7, .inl (cI, 44, .inl v_numbers))] H → va_D A [(h0, .inr (7, [.ref h1, .ref h2, .int v_recorded, .ref h3, .ref h4, .ref h5, .int v_padLength, .ref h6, .int v_at, .int v_letter, .int v_hasUnder, .ref h7, .int v_numbersMany])), (h1, .inl (cI, 2628, .inl v_state)), (h6, .inl (cI, 7, .inl v_found)), (h7, .inl (cI, 44, .inl v_numbers))] → va_S A s.heap H locs → lv_has ls 6 [(0, .ref h0), (1, .int q1), (2, .int (v_numbersMany - q1))] → W p l e rmX7_doesBlock s m args below meth c H locs 0 0 Q (F0 m 38 ls [.int q2]) := by
      intro H locs ls hP hD hS hl
      refine lv_istore_n (lv' := [(3, .int q2), (0, .ref h0), (1, .int q1), (2, .int (v_numbersMany - q1))]) hx hb dX7_doesBlock_38 rfl hl (by decide) rfl (fun ls hl => ?_)
      refine lv_aload_n hx hb dX7_doesBlock_39 rfl (lv_at hl 1 rfl) ?_
      refine lv_aload_n hx hb dX7_doesBlock_40 rfl (lv_at hl 1 rfl) ?_
      refine va_get (D := (dC, dI)) (ci := 7) (v := .ref h7) (C := RX7) (T := TX7) (N := 13) hx hb hts inX7_doesBlock_X7 hown hK hP 0 rfl rfl 11 (by decide) (hts _ kX7_doesBlock_3) (fun _ h9 => h9) rfl dX7_doesBlock_41 ?_
      refine lv_iconst (v := 0) hx hb dX7_doesBlock_44 (by decide) ?_
      refine x_iald (k := 0) hx hb hK hP 3 0 rfl rfl (inb_in (by decide)) rfl dX7_doesBlock_45 ?_
      refine lv_iload_n hx hb dX7_doesBlock_46 rfl (lv_at hl 0 rfl) ?_
      refine lv_iload_n hx hb dX7_doesBlock_47 rfl (lv_at hl 3 rfl) ?_
      obtain ⟨q3, hq3, hd⟩ := bnd_some hd
      have hPc : va_P (dC, dI) vwCl [(h0, .inr (7, [.ref h1, .ref h2, .int v_recorded, .ref h3, .ref h4, .ref h5, .int v_padLength, .ref h6, .int v_at, .int v_letter, .int v_hasUnder, .ref h7, .int v_numbersMany])), (h1, .inl (cI, 2628, .inl v_state))] _ := hP.sub [0, 1] rfl
      have hDc := hD.sub (ws' := [(h0, .inr (7, [.ref h1, .ref h2, .int v_recorded, .ref h3, .ref h4, .ref h5, .int v_padLength, .ref h6, .int v_at, .int v_letter, .int v_hasUnder, .ref h7, .int v_numbersMany])), (h1, .inl (cI, 2628, .inl v_state))]) [0, 1] (by decide) rfl
      have hFc := va_free (wc := [(h0, .inr (7, [.ref h1, .ref h2, .int v_recorded, .ref h3, .ref h4, .ref h5, .int v_padLength, .ref h6, .int v_at, .int v_letter, .int v_hasUnder, .ref h7, .int v_numbersMany])), (h1, .inl (cI, 2628, .inl v_state))]) hD hS hA [0, 1] rfl
      refine va_calli (va_runV (As := [.int (v_numbers 0), .int q2, .int (v_numbersMany - q1)]) (rest := []) ⟨hx, hb, hml, hown, hts⟩ (c_X7_whyNotWritten l dC dI cI cC cT h0 h1 h2 h3 h4 h5 h6 h7 H.size v_state v_recorded v_padLength v_at v_letter v_hasUnder v_numbersMany (v_numbers 0) q2 (v_numbersMany - q1) q3 hq3) (cwV 3 hts gX7_doesBlock_X7_whyNotWritten rfl rfl rfl hv_X7_whyNotWritten ⟨Nat.le_of_ble_eq_true rfl, Nat.le_of_ble_eq_true rfl⟩) ⟨preB_fb, va_recv hK hPc (ci := 7) (q0 := 0) rfl rfl, fun U hU hW => preB_mk hU hW hPc hK hDc hN⟩ rfl rfl hl.1 rfl (lv_room (Nat.le_of_ble_eq_true rfl)) dX7_doesBlock_48 ⟨Nat.zero_le _, Nat.zero_le _⟩) hS (fun q _ h => hFc q h) hFc (fun r_ u_ t H locs ht hvm hw hB hz1 hk1 hS => ?_)
      have hw : r_ = q3 := hw
      have hw := hw.symm
      subst hw
      obtain ⟨hP, hD⟩ := x_join (ws' := [(h0, .inr (7, [.ref h1, .ref h2, .int v_recorded, .ref h3, .ref h4, .ref h5, .int v_padLength, .ref h6, .int v_at, .int v_letter, .int v_hasUnder, .ref h7, .int v_numbersMany])), (h1, .inl (cI, 2628, .inl v_state)), (h6, .inl (cI, 7, .inl v_found)), (h7, .inl (cI, 44, .inl v_numbers))]) hP hD [0, 1] [2, 3] rfl rfl (by decide) (by decide) hk1 hFc ht hB [2, 3, 0, 1] (by decide) rfl
      clear hPc hDc hFc hk1 hB ht hz1 hvm
      obtain ⟨q4, hq4, hd⟩ := bnd_some hd
      have Kq4 : ∀ (H : Heap) (locs : List Loc) (ls : Array Slot), va_P (dC, dI) vwCl [(h0, .inr (7, [.ref h1, .ref h2, .int v_recorded, .ref h3, .ref h4, .ref h5, .int v_padLength, .ref h6, .int v_at, .int v_letter, .int v_hasUnder, .ref h7, .int v_numbersMany])), (h1, .inl (cI, 2628, .inl v_state)), (h6, .inl (cI, 7, .inl v_found)), (h7, .inl (cI, 44, .inl v_numbers))] H → va_D A [(h0, .inr (7, [.ref h1, .ref h2, .int v_recorded, .ref h3, .ref h4, .ref h5, .int v_padLength, .ref h6, .int v_at, .int v_letter, .int v_hasUnder, .ref h7, .int v_numbersMany])), (h1, .inl (cI, 2628, .inl v_state)), (h6, .inl (cI, 7, .inl v_found)), (h7, .inl (cI, 44, .inl v_numbers))] → va_S A s.heap H locs → lv_has ls 6 [(0, .ref h0), (1, .int q1), (2, .int (v_numbersMany - q1)), (3, .int q2)] → W p l e rmX7_doesBlock s m args below meth c H locs 0 0 Q (F0 m 59 ls [.int q4]) := by
        intro H locs ls hP hD hS hl
        refine lv_istore (lv' := [(4, .int q4), (0, .ref h0), (1, .int q1), (2, .int (v_numbersMany - q1)), (3, .int q2)]) hx hb dX7_doesBlock_59 hl (by decide) rfl (fun ls hl => ?_)
        refine lv_iconst (v := 0) hx hb dX7_doesBlock_61 (by decide) ?_
        refine lv_istore (lv' := [(5, .int (0 : Int32)), (4, .int q4), (0, .ref h0), (1, .int q1), (2, .int (v_numbersMany - q1)), (3, .int q2)]) hx hb dX7_doesBlock_62 hl (by decide) rfl (fun ls hl => ?_)
        obtain ⟨q5, hq5, hd⟩ := bnd_some hd
        have Kq5 : ∀ (H : Heap) (locs : List Loc) (ls : Array Slot), va_P (dC, dI) vwCl [(h0, .inr (7, [.ref h1, .ref h2, .int v_recorded, .ref h3, .ref h4, .ref h5, .int v_padLength, .ref h6, .int v_at, .int v_letter, .int v_hasUnder, .ref h7, .int v_numbersMany])), (h1, .inl (cI, 2628, .inl v_state)), (h6, .inl (cI, 7, .inl q5.2)), (h7, .inl (cI, 44, .inl v_numbers))] H → va_D A [(h0, .inr (7, [.ref h1, .ref h2, .int v_recorded, .ref h3, .ref h4, .ref h5, .int v_padLength, .ref h6, .int v_at, .int v_letter, .int v_hasUnder, .ref h7, .int v_numbersMany])), (h1, .inl (cI, 2628, .inl v_state)), (h6, .inl (cI, 7, .inl q5.2)), (h7, .inl (cI, 44, .inl v_numbers))] → va_S A s.heap H locs → lv_has ls 6 [(0, .ref h0), (2, .int (v_numbersMany - q1)), (3, .int q2), (4, .int q5.1)] → W p l e rmX7_doesBlock s m args below meth c H locs 0 0 Q (F0 m 119 ls []) := by
          intro H locs ls hP hD hS hl
          refine lv_iload hx hb dX7_doesBlock_119 (lv_at hl 3 rfl) ?_
          refine lv_if_eq (tgt := 137) hx hb dX7_doesBlock_121 (by decide) (fun c6 => ?_) (fun c6 => ?_)
          · replace hd := ite_t c6 hd
            refine lv_iload hx hb dX7_doesBlock_137 (lv_at hl 3 rfl) ?_
            obtain ⟨g7, hd⟩ := gd_some hd
            cases hd
            exact hend (by rfl) (z_nar g7) hP hD hS dX7_doesBlock_139
          · replace hd := ite_f c6 hd
            refine lv_aload_n hx hb dX7_doesBlock_124 rfl (lv_at hl 0 rfl) ?_
            refine lv_aload_n hx hb dX7_doesBlock_125 rfl (lv_at hl 0 rfl) ?_
            refine va_get (D := (dC, dI)) (ci := 7) (v := .ref h7) (C := RX7) (T := TX7) (N := 13) hx hb hts inX7_doesBlock_X7 hown hK hP 0 rfl rfl 11 (by decide) (hts _ kX7_doesBlock_3) (fun _ h9 => h9) rfl dX7_doesBlock_126 ?_
            refine lv_iconst (v := 0) hx hb dX7_doesBlock_129 (by decide) ?_
            refine x_iald (k := 0) hx hb hK hP 3 0 rfl rfl (inb_in (by decide)) rfl dX7_doesBlock_130 ?_
            refine lv_iload_n hx hb dX7_doesBlock_131 rfl (lv_at hl 2 rfl) ?_
            refine lv_iload_n hx hb dX7_doesBlock_132 rfl (lv_at hl 1 rfl) ?_
            obtain ⟨q8, hq8, hd⟩ := bnd_some hd
            have hPc : va_P (dC, dI) vwCl [(h0, .inr (7, [.ref h1, .ref h2, .int v_recorded, .ref h3, .ref h4, .ref h5, .int v_padLength, .ref h6, .int v_at, .int v_letter, .int v_hasUnder, .ref h7, .int v_numbersMany])), (h1, .inl (cI, 2628, .inl v_state)), (h6, .inl (cI, 7, .inl q5.2))] _ := hP.sub [0, 1, 2] rfl
            have hDc := hD.sub (ws' := [(h0, .inr (7, [.ref h1, .ref h2, .int v_recorded, .ref h3, .ref h4, .ref h5, .int v_padLength, .ref h6, .int v_at, .int v_letter, .int v_hasUnder, .ref h7, .int v_numbersMany])), (h1, .inl (cI, 2628, .inl v_state)), (h6, .inl (cI, 7, .inl q5.2))]) [0, 1, 2] (by decide) rfl
            have hFc := va_free (wc := [(h0, .inr (7, [.ref h1, .ref h2, .int v_recorded, .ref h3, .ref h4, .ref h5, .int v_padLength, .ref h6, .int v_at, .int v_letter, .int v_hasUnder, .ref h7, .int v_numbersMany])), (h1, .inl (cI, 2628, .inl v_state)), (h6, .inl (cI, 7, .inl q5.2))]) hD hS hA [0, 1, 2] rfl
            refine va_calli (va_runV (As := [.int (v_numbers 0), .int q2, .int (v_numbersMany - q1)]) (rest := []) ⟨hx, hb, hml, hown, hts⟩ (c_X7_writes l dC dI cI cC cT h0 h1 h2 h3 h4 h5 h6 h7 H.size v_state v_recorded v_padLength q5.2 v_at v_letter v_hasUnder v_numbersMany (v_numbers 0) q2 (v_numbersMany - q1) q8 hq8) (cwV 3 hts gX7_doesBlock_X7_writes rfl rfl rfl hv_X7_writes ⟨Nat.le_of_ble_eq_true rfl, Nat.le_of_ble_eq_true rfl⟩) ⟨preB_fb, va_recv hK hPc (ci := 7) (q0 := 0) rfl rfl, fun U hU hW => preB_mk hU hW hPc hK hDc hN⟩ rfl rfl hl.1 rfl (lv_room (Nat.le_of_ble_eq_true rfl)) dX7_doesBlock_133 ⟨Nat.zero_le _, Nat.zero_le _⟩) hS (fun q _ h => hFc q h) hFc (fun r_ u_ t H locs ht hvm hw hB hz1 hk1 hS => ?_)
            have hw : r_ = q8.1 := hw
            have hw := hw.symm
            subst hw
            obtain ⟨hP, hD⟩ := x_join (ws' := [(h0, .inr (7, [.ref h1, .ref h2, .int v_recorded, .ref h3, .ref h4, .ref h5, .int v_padLength, .ref h6, .int v_at, .int v_letter, .int v_hasUnder, .ref h7, .int v_numbersMany])), (h1, .inl (cI, 2628, .inl q8.2)), (h6, .inl (cI, 7, .inl q5.2)), (h7, .inl (cI, 44, .inl v_numbers))]) hP hD [0, 1, 2] [3] rfl rfl (by decide) (by decide) hk1 hFc ht hB [1, 2, 3, 0] (by decide) rfl
            clear hPc hDc hFc hk1 hB ht hz1 hvm
            refine lv_pop hx hb dX7_doesBlock_136 rfl ?_
            refine lv_iload hx hb dX7_doesBlock_137 (lv_at hl 3 rfl) ?_
            obtain ⟨g9, hd⟩ := gd_some hd
            cases hd
            exact hend (by rfl) (z_nar g9) hP hD hS dX7_doesBlock_139
        clear hd
        have KL17 : ∀ (fu : Nat) (y4_64 : Int32) (y5_64 : Int32) (v_found_64 : (Nat → Int32)) (hd : den_X7_doesBlock_L64 v_numbers v_numbersMany q1 fu y4_64 y5_64 v_found_64 = some q5) (H : Heap) (locs : List Loc) (ls : Array Slot), va_P (dC, dI) vwCl [(h0, .inr (7, [.ref h1, .ref h2, .int v_recorded, .ref h3, .ref h4, .ref h5, .int v_padLength, .ref h6, .int v_at, .int v_letter, .int v_hasUnder, .ref h7, .int v_numbersMany])), (h1, .inl (cI, 2628, .inl v_state)), (h6, .inl (cI, 7, .inl v_found_64)), (h7, .inl (cI, 44, .inl v_numbers))] H → va_D A [(h0, .inr (7, [.ref h1, .ref h2, .int v_recorded, .ref h3, .ref h4, .ref h5, .int v_padLength, .ref h6, .int v_at, .int v_letter, .int v_hasUnder, .ref h7, .int v_numbersMany])), (h1, .inl (cI, 2628, .inl v_state)), (h6, .inl (cI, 7, .inl v_found_64)), (h7, .inl (cI, 44, .inl v_numbers))] → va_S A s.heap H locs → lv_has ls 6 [(0, .ref h0), (1, .int q1), (2, .int (v_numbersMany - q1)), (3, .int q2), (4, .int y4_64), (5, .int y5_64)] → W p l e rmX7_doesBlock s m args below meth c H locs 0 0 Q (F0 m 64 ls []) := by
          intro fu
          induction fu with
          | zero => intro y4_64 y5_64 v_found_64 hd; exact no_some hd
          | succ fu ih =>
            intro y4_64 y5_64 v_found_64 hd H locs ls hP hD hS hl
            rw [den_X7_doesBlock_L64] at hd
            refine lv_iload hx hb dX7_doesBlock_64 (lv_at hl 5 rfl) ?_
            refine lv_iload_n hx hb dX7_doesBlock_66 rfl (lv_at hl 2 rfl) ?_
            refine lv_icmp_ge (tgt := 119) hx hb dX7_doesBlock_67 (by decide) (fun c10 => ?_) (fun c10 => ?_)
            · replace hd := ite_t c10 hd
              cases hd
              exact Kq5 _ _ _ hP hD hS (lv_sub hl [0, 2, 3, 4] rfl)
            · replace hd := ite_f c10 hd
              refine lv_iload hx hb dX7_doesBlock_70 (lv_at hl 4 rfl) ?_
              refine lv_if_eq (tgt := 119) hx hb dX7_doesBlock_72 (by decide) (fun c11 => ?_) (fun c11 => ?_)
              · replace hd := ite_t c11 hd
                cases hd
                exact Kq5 _ _ _ hP hD hS (lv_sub hl [0, 2, 3, 4] rfl)
              · replace hd := ite_f c11 hd
                refine lv_aload_n hx hb dX7_doesBlock_75 rfl (lv_at hl 0 rfl) ?_
                refine va_get (D := (dC, dI)) (ci := 7) (v := .ref h7) (C := RX7) (T := TX7) (N := 13) hx hb hts inX7_doesBlock_X7 hown hK hP 0 rfl rfl 11 (by decide) (hts _ kX7_doesBlock_3) (fun _ h9 => h9) rfl dX7_doesBlock_76 ?_
                refine lv_iload_n hx hb dX7_doesBlock_79 rfl (lv_at hl 1 rfl) ?_
                refine lv_iload hx hb dX7_doesBlock_80 (lv_at hl 5 rfl) ?_
                refine lv_iadd hx hb dX7_doesBlock_82 ?_
                obtain ⟨g12, hd⟩ := gd_some hd
                refine x_iald (k := (q1 + y5_64).toNatClampNeg) hx hb hK hP 3 0 rfl rfl (inb_in g12) rfl dX7_doesBlock_83 ?_
                refine lv_sipush (v := 256) hx hb dX7_doesBlock_84 (by decide) ?_
                obtain ⟨q13, hq13, hd⟩ := bnd_some hd
                have Kq13 : ∀ (H : Heap) (locs : List Loc) (ls : Array Slot), va_P (dC, dI) vwCl [(h0, .inr (7, [.ref h1, .ref h2, .int v_recorded, .ref h3, .ref h4, .ref h5, .int v_padLength, .ref h6, .int v_at, .int v_letter, .int v_hasUnder, .ref h7, .int v_numbersMany])), (h1, .inl (cI, 2628, .inl v_state)), (h6, .inl (cI, 7, .inl v_found_64)), (h7, .inl (cI, 44, .inl v_numbers))] H → va_D A [(h0, .inr (7, [.ref h1, .ref h2, .int v_recorded, .ref h3, .ref h4, .ref h5, .int v_padLength, .ref h6, .int v_at, .int v_letter, .int v_hasUnder, .ref h7, .int v_numbersMany])), (h1, .inl (cI, 2628, .inl v_state)), (h6, .inl (cI, 7, .inl v_found_64)), (h7, .inl (cI, 44, .inl v_numbers))] → va_S A s.heap H locs → lv_has ls 6 [(0, .ref h0), (1, .int q1), (2, .int (v_numbersMany - q1)), (3, .int q2), (5, .int y5_64)] → W p l e rmX7_doesBlock s m args below meth c H locs 0 0 Q (F0 m 95 ls [.int q13]) := by
                  intro H locs ls hP hD hS hl
                  refine lv_istore (lv' := [(4, .int q13), (0, .ref h0), (1, .int q1), (2, .int (v_numbersMany - q1)), (3, .int q2), (5, .int y5_64)]) hx hb dX7_doesBlock_95 hl (by decide) rfl (fun ls hl => ?_)
                  refine lv_aload_n hx hb dX7_doesBlock_97 rfl (lv_at hl 1 rfl) ?_
                  refine va_get (D := (dC, dI)) (ci := 7) (v := .ref h6) (C := RX7) (T := TX7) (N := 13) hx hb hts inX7_doesBlock_X7 hown hK hP 0 rfl rfl 7 (by decide) (hts _ kX7_doesBlock_4) (fun _ h9 => h9) rfl dX7_doesBlock_98 ?_
                  refine lv_iload hx hb dX7_doesBlock_101 (lv_at hl 5 rfl) ?_
                  refine lv_aload_n hx hb dX7_doesBlock_103 rfl (lv_at hl 1 rfl) ?_
                  refine va_get (D := (dC, dI)) (ci := 7) (v := .ref h7) (C := RX7) (T := TX7) (N := 13) hx hb hts inX7_doesBlock_X7 hown hK hP 0 rfl rfl 11 (by decide) (hts _ kX7_doesBlock_3) (fun _ h9 => h9) rfl dX7_doesBlock_104 ?_
                  refine lv_iload_n hx hb dX7_doesBlock_107 rfl (lv_at hl 2 rfl) ?_
                  refine lv_iload hx hb dX7_doesBlock_108 (lv_at hl 5 rfl) ?_
                  refine lv_iadd hx hb dX7_doesBlock_110 ?_
                  obtain ⟨g14, hd⟩ := gd_some hd
                  refine x_iald (k := (q1 + y5_64).toNatClampNeg) hx hb hK hP 3 0 rfl rfl (inb_in g14) rfl dX7_doesBlock_111 ?_
                  obtain ⟨g15, hd⟩ := gd_some hd
                  refine x_iast (k := y5_64.toNatClampNeg) hx hb hK hP hD hS 2 0 rfl rfl (inb_in g15) rfl dX7_doesBlock_112 (fun H locs hP hD hS => ?_)
                  have hP : va_P (dC, dI) vwCl [(h0, .inr (7, [.ref h1, .ref h2, .int v_recorded, .ref h3, .ref h4, .ref h5, .int v_padLength, .ref h6, .int v_at, .int v_letter, .int v_hasUnder, .ref h7, .int v_numbersMany])), (h1, .inl (cI, 2628, .inl v_state)), (h6, .inl (cI, 7, .inl (upd v_found_64 y5_64.toNatClampNeg (v_numbers (q1 + y5_64).toNatClampNeg)))), (h7, .inl (cI, 44, .inl v_numbers))] H := hP
                  have hD : va_D A [(h0, .inr (7, [.ref h1, .ref h2, .int v_recorded, .ref h3, .ref h4, .ref h5, .int v_padLength, .ref h6, .int v_at, .int v_letter, .int v_hasUnder, .ref h7, .int v_numbersMany])), (h1, .inl (cI, 2628, .inl v_state)), (h6, .inl (cI, 7, .inl (upd v_found_64 y5_64.toNatClampNeg (v_numbers (q1 + y5_64).toNatClampNeg)))), (h7, .inl (cI, 44, .inl v_numbers))] := hD
                  refine lv_iinc (v := (y5_64 + (1 : Int32))) (lv' := [(5, .int (y5_64 + (1 : Int32))), (4, .int q13), (0, .ref h0), (1, .int q1), (2, .int (v_numbersMany - q1)), (3, .int q2)]) hx hb dX7_doesBlock_113 hl (k := 5) rfl (by first | rfl | decide) (by decide) rfl (fun ls hl => ?_)
                  refine lv_goto (tgt := 64) hx hb dX7_doesBlock_116 (by decide) ?_
                  exact ih q13 (y5_64 + (1 : Int32)) (upd v_found_64 y5_64.toNatClampNeg (v_numbers (q1 + y5_64).toNatClampNeg)) hd _ _ _ hP hD hS (lv_sub hl [2, 3, 4, 5, 1, 0] rfl)
                replace hd := hq13
                clear hq13
                refine lv_icmp_ge (tgt := 94) hx hb dX7_doesBlock_87 (by decide) (fun c16 => ?_) (fun c16 => ?_)
                · replace hd := ite_t c16 hd
                  refine lv_iconst (v := 0) hx hb dX7_doesBlock_94 (by decide) ?_
                  cases hd
                  exact Kq13 _ _ _ hP hD hS (lv_sub hl [0, 1, 2, 3, 5] rfl)
                · replace hd := ite_f c16 hd
                  refine lv_iconst (v := 1) hx hb dX7_doesBlock_90 (by decide) ?_
                  refine lv_goto (tgt := 95) hx hb dX7_doesBlock_91 (by decide) ?_
                  cases hd
                  exact Kq13 _ _ _ hP hD hS (lv_sub hl [0, 1, 2, 3, 5] rfl)
        exact KL17 FU q4 (0 : Int32) v_found hq5 _ _ _ hP hD hS (lv_sub hl [2, 3, 4, 5, 1, 0] rfl)
      replace hd := hq4
      clear hq4
      refine lv_if_ne (tgt := 58) hx hb dX7_doesBlock_51 (by decide) (fun c18 => ?_) (fun c18 => ?_)
      · replace hd := ite_f c18 hd
        refine lv_iconst (v := 0) hx hb dX7_doesBlock_58 (by decide) ?_
        cases hd
        exact Kq4 _ _ _ hP hD hS (lv_sub hl [1, 2, 3, 0] rfl)
      · replace hd := ite_t c18 hd
        refine lv_iconst (v := 1) hx hb dX7_doesBlock_54 (by decide) ?_
        refine lv_goto (tgt := 59) hx hb dX7_doesBlock_55 (by decide) ?_
        cases hd
        exact Kq4 _ _ _ hP hD hS (lv_sub hl [1, 2, 3, 0] rfl)
    replace hd := hq2
    clear hq2
    refine lv_if_eq (tgt := 36) hx hb dX7_doesBlock_24 (by decide) (fun c19 => ?_) (fun c19 => ?_)
    · replace hd := ite_t c19 hd
      refine lv_bipush (v := -6) hx hb dX7_doesBlock_36 (by decide) ?_
      cases hd
      exact Kq2 _ _ _ hP hD hS (lv_sub hl [2, 1, 0] rfl)
    · replace hd := ite_f c19 hd
      refine lv_aload_n hx hb dX7_doesBlock_27 rfl (lv_at hl 2 rfl) ?_
      refine va_get (D := (dC, dI)) (ci := 7) (v := .ref h7) (C := RX7) (T := TX7) (N := 13) hx hb hts inX7_doesBlock_X7 hown hK hP 0 rfl rfl 11 (by decide) (hts _ kX7_doesBlock_3) (fun _ h9 => h9) rfl dX7_doesBlock_28 ?_
      refine lv_iconst (v := 1) hx hb dX7_doesBlock_31 (by decide) ?_
      refine x_iald (k := 1) hx hb hK hP 3 0 rfl rfl (inb_in (by decide)) rfl dX7_doesBlock_32 ?_
      refine lv_goto (tgt := 38) hx hb dX7_doesBlock_33 (by decide) ?_
      cases hd
      exact Kq2 _ _ _ hP hD hS (lv_sub hl [2, 1, 0] rfl)
  replace hd := hq1
  clear hq1
  refine lv_if_eq (tgt := 11) hx hb dX7_doesBlock_4 (by decide) (fun c20 => ?_) (fun c20 => ?_)
  · replace hd := ite_t c20 hd
    refine lv_iconst (v := 1) hx hb dX7_doesBlock_11 (by decide) ?_
    cases hd
    exact Kq1 _ _ _ hP hD hS (lv_sub hl [0] rfl)
  · replace hd := ite_f c20 hd
    refine lv_iconst (v := 2) hx hb dX7_doesBlock_7 (by decide) ?_
    refine lv_goto (tgt := 12) hx hb dX7_doesBlock_8 (by decide) ?_
    cases hd
    exact Kq1 _ _ _ hP hD hS (lv_sub hl [0] rfl)
def rmX7_doesFade : Room := { frames := 7, cells := 0, slots := 0, locals := 151 }
theorem kX7_doesFade_1 : (Cond.fieldLink RX7 28 "CassetteTonesModel" "numbers" "[I") ∈ wsX7_doesFade := List.mem_of_getElem? (i := 1) (by decide +kernel)
theorem inX7_doesFade_X7 : ∀ w ∈ wsX70, w ∈ wsX7_doesFade := by decide +kernel
theorem hp_X7_doesFade : yX7_doesFade.cls ≠ "java/lang/invoke/MethodHandle" ∧ yX7_doesFade.cls ≠ "java/lang/invoke/VarHandle" ∧ (parseMethodDescriptor yX7_doesFade.desc).map (fun d => d.parameters.length) = some 0 := by decide +kernel
theorem hv_X7_doesFade : yX7_doesFade.cls = RX7 ∧ yX7_doesFade.cls ≠ "java/lang/invoke/MethodHandle" ∧ yX7_doesFade.cls ≠ "java/lang/invoke/VarHandle" ∧ (parseMethodDescriptor yX7_doesFade.desc).map (fun d => d.parameters.length) = some 0 := by decide +kernel
set_option maxHeartbeats 4000000 in
set_option maxRecDepth 100000 in
theorem c_X7_doesFade (l : Launch) (dC : Nat → ClassId) (dI : Nat → Nat → Nat) (cI cC cT : ClassId) (h0 h1 h2 h3 h4 h5 h6 h7 : Nat) (sz : Nat) (v_state : (Nat → Int32)) (v_recorded : Int32) (v_padLength : Int32) (v_at : Int32) (v_letter : Int32) (v_hasUnder : Int32) (v_numbers : (Nat → Int32)) (v_numbersMany : Int32) (r : (Int32 × (Nat → Int32))) (hd : den_X7_doesFade v_state v_numbers = some r) : Met l yX7_doesFade wsX7_doesFade rmX7_doesFade (va_Pc [.ref h0] (preB sz (dC, dI) [(h0, .inr (7, [.ref h1, .ref h2, .int v_recorded, .ref h3, .ref h4, .ref h5, .int v_padLength, .ref h6, .int v_at, .int v_letter, .int v_hasUnder, .ref h7, .int v_numbersMany])), (h1, .inl (cI, 2628, .inl v_state)), (h7, .inl (cI, 44, .inl v_numbers))] [(cI, .int), (cC, .char), (cT, .object "CassetteTones$Tape")])) (va_Qi (S := Unit) (fun v _ => v = r.1) (fun _ t => posB (dC, dI) [(h0, .inr (7, [.ref h1, .ref h2, .int v_recorded, .ref h3, .ref h4, .ref h5, .int v_padLength, .ref h6, .int v_at, .int v_letter, .int v_hasUnder, .ref h7, .int v_numbersMany])), (h1, .inl (cI, 2628, .inl r.2)), (h7, .inl (cI, 44, .inl v_numbers))] [(cI, .int), (cC, .char), (cT, .object "CassetteTones$Tape")] (va_A [(h0, .inr (7, [.ref h1, .ref h2, .int v_recorded, .ref h3, .ref h4, .ref h5, .int v_padLength, .ref h6, .int v_at, .int v_letter, .int v_hasUnder, .ref h7, .int v_numbersMany])), (h1, .inl (cI, 2628, .inl v_state)), (h7, .inl (cI, 44, .inl v_numbers))] sz) t) (va_A [(h0, .inr (7, [.ref h1, .ref h2, .int v_recorded, .ref h3, .ref h4, .ref h5, .int v_padLength, .ref h6, .int v_at, .int v_letter, .int v_hasUnder, .ref h7, .int v_numbersMany])), (h1, .inl (cI, 2628, .inl v_state)), (h7, .inl (cI, 44, .inl v_numbers))] sz)) 0 0 (va_A [(h0, .inr (7, [.ref h1, .ref h2, .int v_recorded, .ref h3, .ref h4, .ref h5, .int v_padLength, .ref h6, .int v_at, .int v_letter, .int v_hasUnder, .ref h7, .int v_numbersMany])), (h1, .inl (cI, 2628, .inl v_state)), (h7, .inl (cI, 44, .inl v_numbers))] sz) := by
  refine x_met_z (by decide) rfl (Nat.le_of_ble_eq_true rfl) ?_
  intro p e s m args below meth c A Q H locs ls hx hb hml hown hts hK hN hA hP hD hS hl hend
  have hown : s.vm.findClass RX7 = some m.cls := hown
  have hl : lv_has ls 2 [(0, .ref h0)] := hl
  unfold den_X7_doesFade at hd
  refine lv_aload_n hx hb dX7_doesFade_0 rfl (lv_at hl 0 rfl) ?_
  refine lv_aload_n hx hb dX7_doesFade_1 rfl (lv_at hl 0 rfl) ?_
  refine va_get (D := (dC, dI)) (ci := 7) (v := .ref h7) (C := RX7) (T := TX7) (N := 13) hx hb hts inX7_doesFade_X7 hown hK hP 0 rfl rfl 11 (by decide) (hts _ kX7_doesFade_1) (fun _ h9 => h9) rfl dX7_doesFade_2 ?_
  refine lv_iconst (v := 0) hx hb dX7_doesFade_5 (by decide) ?_
  refine x_iald (k := 0) hx hb hK hP 2 0 rfl rfl (inb_in (by decide)) rfl dX7_doesFade_6 ?_
  refine lv_aload_n hx hb dX7_doesFade_7 rfl (lv_at hl 0 rfl) ?_
  refine va_get (D := (dC, dI)) (ci := 7) (v := .ref h7) (C := RX7) (T := TX7) (N := 13) hx hb hts inX7_doesFade_X7 hown hK hP 0 rfl rfl 11 (by decide) (hts _ kX7_doesFade_1) (fun _ h9 => h9) rfl dX7_doesFade_8 ?_
  refine lv_iconst (v := 1) hx hb dX7_doesFade_11 (by decide) ?_
  refine x_iald (k := 1) hx hb hK hP 2 0 rfl rfl (inb_in (by decide)) rfl dX7_doesFade_12 ?_
  refine lv_aload_n hx hb dX7_doesFade_13 rfl (lv_at hl 0 rfl) ?_
  refine va_get (D := (dC, dI)) (ci := 7) (v := .ref h7) (C := RX7) (T := TX7) (N := 13) hx hb hts inX7_doesFade_X7 hown hK hP 0 rfl rfl 11 (by decide) (hts _ kX7_doesFade_1) (fun _ h9 => h9) rfl dX7_doesFade_14 ?_
  refine lv_iconst (v := 2) hx hb dX7_doesFade_17 (by decide) ?_
  refine x_iald (k := 2) hx hb hK hP 2 0 rfl rfl (inb_in (by decide)) rfl dX7_doesFade_18 ?_
  obtain ⟨q1, hq1, hd⟩ := bnd_some hd
  have hPc : va_P (dC, dI) vwCl [(h0, .inr (7, [.ref h1, .ref h2, .int v_recorded, .ref h3, .ref h4, .ref h5, .int v_padLength, .ref h6, .int v_at, .int v_letter, .int v_hasUnder, .ref h7, .int v_numbersMany])), (h1, .inl (cI, 2628, .inl v_state))] _ := hP.sub [0, 1] rfl
  have hDc := hD.sub (ws' := [(h0, .inr (7, [.ref h1, .ref h2, .int v_recorded, .ref h3, .ref h4, .ref h5, .int v_padLength, .ref h6, .int v_at, .int v_letter, .int v_hasUnder, .ref h7, .int v_numbersMany])), (h1, .inl (cI, 2628, .inl v_state))]) [0, 1] (by decide) rfl
  have hFc := va_free (wc := [(h0, .inr (7, [.ref h1, .ref h2, .int v_recorded, .ref h3, .ref h4, .ref h5, .int v_padLength, .ref h6, .int v_at, .int v_letter, .int v_hasUnder, .ref h7, .int v_numbersMany])), (h1, .inl (cI, 2628, .inl v_state))]) hD hS hA [0, 1] rfl
  refine va_calli (va_runV (As := [.int (v_numbers 0), .int (v_numbers 1), .int (v_numbers 2)]) (rest := []) ⟨hx, hb, hml, hown, hts⟩ (c_X7_whyNotFaded l dC dI cI cC cT h0 h1 h2 h3 h4 h5 h6 h7 H.size v_state v_recorded v_padLength v_at v_letter v_hasUnder v_numbersMany (v_numbers 0) (v_numbers 1) (v_numbers 2) q1 hq1) (cwV 3 hts gX7_doesFade_X7_whyNotFaded rfl rfl rfl hv_X7_whyNotFaded ⟨Nat.le_of_ble_eq_true rfl, Nat.le_of_ble_eq_true rfl⟩) ⟨preB_fb, va_recv hK hPc (ci := 7) (q0 := 0) rfl rfl, fun U hU hW => preB_mk hU hW hPc hK hDc hN⟩ rfl rfl hl.1 rfl (lv_room (Nat.le_of_ble_eq_true rfl)) dX7_doesFade_19 ⟨Nat.zero_le _, Nat.zero_le _⟩) hS (fun q _ h => hFc q h) hFc (fun r_ u_ t H locs ht hvm hw hB hz1 hk1 hS => ?_)
  have hw : r_ = q1 := hw
  have hw := hw.symm
  subst hw
  obtain ⟨hP, hD⟩ := x_join (ws' := [(h0, .inr (7, [.ref h1, .ref h2, .int v_recorded, .ref h3, .ref h4, .ref h5, .int v_padLength, .ref h6, .int v_at, .int v_letter, .int v_hasUnder, .ref h7, .int v_numbersMany])), (h1, .inl (cI, 2628, .inl v_state)), (h7, .inl (cI, 44, .inl v_numbers))]) hP hD [0, 1] [2] rfl rfl (by decide) (by decide) hk1 hFc ht hB [1, 2, 0] (by decide) rfl
  clear hPc hDc hFc hk1 hB ht hz1 hvm
  obtain ⟨q2, hq2, hd⟩ := bnd_some hd
  have Kq2 : ∀ (H : Heap) (locs : List Loc) (ls : Array Slot), va_P (dC, dI) vwCl [(h0, .inr (7, [.ref h1, .ref h2, .int v_recorded, .ref h3, .ref h4, .ref h5, .int v_padLength, .ref h6, .int v_at, .int v_letter, .int v_hasUnder, .ref h7, .int v_numbersMany])), (h1, .inl (cI, 2628, .inl v_state)), (h7, .inl (cI, 44, .inl v_numbers))] H → va_D A [(h0, .inr (7, [.ref h1, .ref h2, .int v_recorded, .ref h3, .ref h4, .ref h5, .int v_padLength, .ref h6, .int v_at, .int v_letter, .int v_hasUnder, .ref h7, .int v_numbersMany])), (h1, .inl (cI, 2628, .inl v_state)), (h7, .inl (cI, 44, .inl v_numbers))] → va_S A s.heap H locs → lv_has ls 2 [(0, .ref h0)] → W p l e rmX7_doesFade s m args below meth c H locs 0 0 Q (F0 m 30 ls [.int q2]) := by
    intro H locs ls hP hD hS hl
    refine lv_istore_n (lv' := [(1, .int q2), (0, .ref h0)]) hx hb dX7_doesFade_30 rfl hl (by decide) rfl (fun ls hl => ?_)
    refine lv_iload_n hx hb dX7_doesFade_31 rfl (lv_at hl 0 rfl) ?_
    refine lv_if_eq (tgt := 58) hx hb dX7_doesFade_32 (by decide) (fun c3 => ?_) (fun c3 => ?_)
    · replace hd := ite_t c3 hd
      refine lv_iload_n hx hb dX7_doesFade_58 rfl (lv_at hl 0 rfl) ?_
      obtain ⟨g4, hd⟩ := gd_some hd
      cases hd
      exact hend (by rfl) (z_nar g4) hP hD hS dX7_doesFade_59
    · replace hd := ite_f c3 hd
      refine lv_aload_n hx hb dX7_doesFade_35 rfl (lv_at hl 1 rfl) ?_
      refine lv_aload_n hx hb dX7_doesFade_36 rfl (lv_at hl 1 rfl) ?_
      refine va_get (D := (dC, dI)) (ci := 7) (v := .ref h7) (C := RX7) (T := TX7) (N := 13) hx hb hts inX7_doesFade_X7 hown hK hP 0 rfl rfl 11 (by decide) (hts _ kX7_doesFade_1) (fun _ h9 => h9) rfl dX7_doesFade_37 ?_
      refine lv_iconst (v := 0) hx hb dX7_doesFade_40 (by decide) ?_
      refine x_iald (k := 0) hx hb hK hP 2 0 rfl rfl (inb_in (by decide)) rfl dX7_doesFade_41 ?_
      refine lv_aload_n hx hb dX7_doesFade_42 rfl (lv_at hl 1 rfl) ?_
      refine va_get (D := (dC, dI)) (ci := 7) (v := .ref h7) (C := RX7) (T := TX7) (N := 13) hx hb hts inX7_doesFade_X7 hown hK hP 0 rfl rfl 11 (by decide) (hts _ kX7_doesFade_1) (fun _ h9 => h9) rfl dX7_doesFade_43 ?_
      refine lv_iconst (v := 1) hx hb dX7_doesFade_46 (by decide) ?_
      refine x_iald (k := 1) hx hb hK hP 2 0 rfl rfl (inb_in (by decide)) rfl dX7_doesFade_47 ?_
      refine lv_aload_n hx hb dX7_doesFade_48 rfl (lv_at hl 1 rfl) ?_
      refine va_get (D := (dC, dI)) (ci := 7) (v := .ref h7) (C := RX7) (T := TX7) (N := 13) hx hb hts inX7_doesFade_X7 hown hK hP 0 rfl rfl 11 (by decide) (hts _ kX7_doesFade_1) (fun _ h9 => h9) rfl dX7_doesFade_49 ?_
      refine lv_iconst (v := 2) hx hb dX7_doesFade_52 (by decide) ?_
      refine x_iald (k := 2) hx hb hK hP 2 0 rfl rfl (inb_in (by decide)) rfl dX7_doesFade_53 ?_
      obtain ⟨q5, hq5, hd⟩ := bnd_some hd
      have hPc : va_P (dC, dI) vwCl [(h0, .inr (7, [.ref h1, .ref h2, .int v_recorded, .ref h3, .ref h4, .ref h5, .int v_padLength, .ref h6, .int v_at, .int v_letter, .int v_hasUnder, .ref h7, .int v_numbersMany])), (h1, .inl (cI, 2628, .inl v_state))] _ := hP.sub [0, 1] rfl
      have hDc := hD.sub (ws' := [(h0, .inr (7, [.ref h1, .ref h2, .int v_recorded, .ref h3, .ref h4, .ref h5, .int v_padLength, .ref h6, .int v_at, .int v_letter, .int v_hasUnder, .ref h7, .int v_numbersMany])), (h1, .inl (cI, 2628, .inl v_state))]) [0, 1] (by decide) rfl
      have hFc := va_free (wc := [(h0, .inr (7, [.ref h1, .ref h2, .int v_recorded, .ref h3, .ref h4, .ref h5, .int v_padLength, .ref h6, .int v_at, .int v_letter, .int v_hasUnder, .ref h7, .int v_numbersMany])), (h1, .inl (cI, 2628, .inl v_state))]) hD hS hA [0, 1] rfl
      refine va_calli (va_runV (As := [.int (v_numbers 0), .int (v_numbers 1), .int (v_numbers 2)]) (rest := []) ⟨hx, hb, hml, hown, hts⟩ (c_X7_fades l dC dI cI cC cT h0 h1 h2 h3 h4 h5 h6 h7 H.size v_state v_recorded v_padLength v_at v_letter v_hasUnder v_numbersMany (v_numbers 0) (v_numbers 1) (v_numbers 2) q5 hq5) (cwV 3 hts gX7_doesFade_X7_fades rfl rfl rfl hv_X7_fades ⟨Nat.le_of_ble_eq_true rfl, Nat.le_of_ble_eq_true rfl⟩) ⟨preB_fb, va_recv hK hPc (ci := 7) (q0 := 0) rfl rfl, fun U hU hW => preB_mk hU hW hPc hK hDc hN⟩ rfl rfl hl.1 rfl (lv_room (Nat.le_of_ble_eq_true rfl)) dX7_doesFade_54 ⟨Nat.zero_le _, Nat.zero_le _⟩) hS (fun q _ h => hFc q h) hFc (fun r_ u_ t H locs ht hvm hw hB hz1 hk1 hS => ?_)
      have hw : r_ = q5.1 := hw
      have hw := hw.symm
      subst hw
      obtain ⟨hP, hD⟩ := x_join (ws' := [(h0, .inr (7, [.ref h1, .ref h2, .int v_recorded, .ref h3, .ref h4, .ref h5, .int v_padLength, .ref h6, .int v_at, .int v_letter, .int v_hasUnder, .ref h7, .int v_numbersMany])), (h1, .inl (cI, 2628, .inl q5.2)), (h7, .inl (cI, 44, .inl v_numbers))]) hP hD [0, 1] [2] rfl rfl (by decide) (by decide) hk1 hFc ht hB [1, 2, 0] (by decide) rfl
      clear hPc hDc hFc hk1 hB ht hz1 hvm
      refine lv_pop hx hb dX7_doesFade_57 rfl ?_
      refine lv_iload_n hx hb dX7_doesFade_58 rfl (lv_at hl 0 rfl) ?_
      obtain ⟨g6, hd⟩ := gd_some hd
      cases hd
      exact hend (by rfl) (z_nar g6) hP hD hS dX7_doesFade_59
  replace hd := hq2
  clear hq2
  refine lv_if_ne (tgt := 29) hx hb dX7_doesFade_22 (by decide) (fun c7 => ?_) (fun c7 => ?_)
  · replace hd := ite_f c7 hd
    refine lv_iconst (v := 0) hx hb dX7_doesFade_29 (by decide) ?_
    cases hd
    exact Kq2 _ _ _ hP hD hS (lv_sub hl [0] rfl)
  · replace hd := ite_t c7 hd
    refine lv_iconst (v := 1) hx hb dX7_doesFade_25 (by decide) ?_
    refine lv_goto (tgt := 30) hx hb dX7_doesFade_26 (by decide) ?_
    cases hd
    exact Kq2 _ _ _ hP hD hS (lv_sub hl [0] rfl)
def rmX7_doesOrder : Room := { frames := 8, cells := 0, slots := 0, locals := 172 }
theorem kX7_doesOrder_1 : (Cond.fieldLink RX7 203 "CassetteTonesModel" "letter" "I") ∈ wsX7_doesOrder := List.mem_of_getElem? (i := 1) (by decide +kernel)
theorem kX7_doesOrder_2 : (Cond.fieldLink RX7 28 "CassetteTonesModel" "numbers" "[I") ∈ wsX7_doesOrder := List.mem_of_getElem? (i := 2) (by decide +kernel)
theorem inX7_doesOrder_X7 : ∀ w ∈ wsX70, w ∈ wsX7_doesOrder := by decide +kernel
theorem hp_X7_doesOrder : yX7_doesOrder.cls ≠ "java/lang/invoke/MethodHandle" ∧ yX7_doesOrder.cls ≠ "java/lang/invoke/VarHandle" ∧ (parseMethodDescriptor yX7_doesOrder.desc).map (fun d => d.parameters.length) = some 0 := by decide +kernel
theorem hv_X7_doesOrder : yX7_doesOrder.cls = RX7 ∧ yX7_doesOrder.cls ≠ "java/lang/invoke/MethodHandle" ∧ yX7_doesOrder.cls ≠ "java/lang/invoke/VarHandle" ∧ (parseMethodDescriptor yX7_doesOrder.desc).map (fun d => d.parameters.length) = some 0 := by decide +kernel
set_option maxHeartbeats 4000000 in
set_option maxRecDepth 100000 in
theorem c_X7_doesOrder (l : Launch) (dC : Nat → ClassId) (dI : Nat → Nat → Nat) (cI cC cT : ClassId) (h0 h1 h2 h3 h4 h5 h6 h7 : Nat) (sz : Nat) (v_state : (Nat → Int32)) (v_recorded : Int32) (v_padLength : Int32) (v_found : (Nat → Int32)) (v_at : Int32) (v_letter : Int32) (v_hasUnder : Int32) (v_numbers : (Nat → Int32)) (v_numbersMany : Int32) (r : (Int32 × (Nat → Int32) × (Nat → Int32))) (hd : den_X7_doesOrder v_state v_found v_letter v_hasUnder v_numbers v_numbersMany = some r) : Met l yX7_doesOrder wsX7_doesOrder rmX7_doesOrder (va_Pc [.ref h0] (preB sz (dC, dI) [(h0, .inr (7, [.ref h1, .ref h2, .int v_recorded, .ref h3, .ref h4, .ref h5, .int v_padLength, .ref h6, .int v_at, .int v_letter, .int v_hasUnder, .ref h7, .int v_numbersMany])), (h1, .inl (cI, 2628, .inl v_state)), (h6, .inl (cI, 7, .inl v_found)), (h7, .inl (cI, 44, .inl v_numbers))] [(cI, .int), (cC, .char), (cT, .object "CassetteTones$Tape")])) (va_Qi (S := Unit) (fun v _ => v = r.1) (fun _ t => posB (dC, dI) [(h0, .inr (7, [.ref h1, .ref h2, .int v_recorded, .ref h3, .ref h4, .ref h5, .int v_padLength, .ref h6, .int v_at, .int v_letter, .int v_hasUnder, .ref h7, .int v_numbersMany])), (h1, .inl (cI, 2628, .inl r.2.1)), (h6, .inl (cI, 7, .inl r.2.2)), (h7, .inl (cI, 44, .inl v_numbers))] [(cI, .int), (cC, .char), (cT, .object "CassetteTones$Tape")] (va_A [(h0, .inr (7, [.ref h1, .ref h2, .int v_recorded, .ref h3, .ref h4, .ref h5, .int v_padLength, .ref h6, .int v_at, .int v_letter, .int v_hasUnder, .ref h7, .int v_numbersMany])), (h1, .inl (cI, 2628, .inl v_state)), (h6, .inl (cI, 7, .inl v_found)), (h7, .inl (cI, 44, .inl v_numbers))] sz) t) (va_A [(h0, .inr (7, [.ref h1, .ref h2, .int v_recorded, .ref h3, .ref h4, .ref h5, .int v_padLength, .ref h6, .int v_at, .int v_letter, .int v_hasUnder, .ref h7, .int v_numbersMany])), (h1, .inl (cI, 2628, .inl v_state)), (h6, .inl (cI, 7, .inl v_found)), (h7, .inl (cI, 44, .inl v_numbers))] sz)) 0 0 (va_A [(h0, .inr (7, [.ref h1, .ref h2, .int v_recorded, .ref h3, .ref h4, .ref h5, .int v_padLength, .ref h6, .int v_at, .int v_letter, .int v_hasUnder, .ref h7, .int v_numbersMany])), (h1, .inl (cI, 2628, .inl v_state)), (h6, .inl (cI, 7, .inl v_found)), (h7, .inl (cI, 44, .inl v_numbers))] sz) := by
  refine x_met_z (by decide) rfl (Nat.le_of_ble_eq_true rfl) ?_
  intro p e s m args below meth c A Q H locs ls hx hb hml hown hts hK hN hA hP hD hS hl hend
  have hown : s.vm.findClass RX7 = some m.cls := hown
  have hl : lv_has ls 2 [(0, .ref h0)] := hl
  unfold den_X7_doesOrder at hd
  refine lv_aload_n hx hb dX7_doesOrder_0 rfl (lv_at hl 0 rfl) ?_
  refine va_get (D := (dC, dI)) (ci := 7) (v := .int v_letter) (C := RX7) (T := TX7) (N := 13) hx hb hts inX7_doesOrder_X7 hown hK hP 0 rfl rfl 9 (by decide) (hts _ kX7_doesOrder_1) (fun _ h9 => h9) rfl dX7_doesOrder_1 ?_
  refine lv_bipush (v := 43) hx hb dX7_doesOrder_4 (by decide) ?_
  refine lv_icmp_ne (tgt := 14) hx hb dX7_doesOrder_6 (by decide) (fun c1 => ?_) (fun c1 => ?_)
  · replace hd := ite_f c1 hd
    refine lv_aload_n hx hb dX7_doesOrder_14 rfl (lv_at hl 0 rfl) ?_
    refine va_get (D := (dC, dI)) (ci := 7) (v := .int v_letter) (C := RX7) (T := TX7) (N := 13) hx hb hts inX7_doesOrder_X7 hown hK hP 0 rfl rfl 9 (by decide) (hts _ kX7_doesOrder_1) (fun _ h9 => h9) rfl dX7_doesOrder_15 ?_
    refine lv_bipush (v := 102) hx hb dX7_doesOrder_18 (by decide) ?_
    refine lv_icmp_ne (tgt := 28) hx hb dX7_doesOrder_20 (by decide) (fun c2 => ?_) (fun c2 => ?_)
    · replace hd := ite_f c2 hd
      refine lv_aload_n hx hb dX7_doesOrder_28 rfl (lv_at hl 0 rfl) ?_
      refine lv_aload_n hx hb dX7_doesOrder_29 rfl (lv_at hl 0 rfl) ?_
      refine va_get (D := (dC, dI)) (ci := 7) (v := .ref h7) (C := RX7) (T := TX7) (N := 13) hx hb hts inX7_doesOrder_X7 hown hK hP 0 rfl rfl 11 (by decide) (hts _ kX7_doesOrder_2) (fun _ h9 => h9) rfl dX7_doesOrder_30 ?_
      refine lv_iconst (v := 0) hx hb dX7_doesOrder_33 (by decide) ?_
      refine x_iald (k := 0) hx hb hK hP 3 0 rfl rfl (inb_in (by decide)) rfl dX7_doesOrder_34 ?_
      obtain ⟨q3, hq3, hd⟩ := bnd_some hd
      have hPc : va_P (dC, dI) vwCl [(h0, .inr (7, [.ref h1, .ref h2, .int v_recorded, .ref h3, .ref h4, .ref h5, .int v_padLength, .ref h6, .int v_at, .int v_letter, .int v_hasUnder, .ref h7, .int v_numbersMany])), (h1, .inl (cI, 2628, .inl v_state))] _ := hP.sub [0, 1] rfl
      have hDc := hD.sub (ws' := [(h0, .inr (7, [.ref h1, .ref h2, .int v_recorded, .ref h3, .ref h4, .ref h5, .int v_padLength, .ref h6, .int v_at, .int v_letter, .int v_hasUnder, .ref h7, .int v_numbersMany])), (h1, .inl (cI, 2628, .inl v_state))]) [0, 1] (by decide) rfl
      have hFc := va_free (wc := [(h0, .inr (7, [.ref h1, .ref h2, .int v_recorded, .ref h3, .ref h4, .ref h5, .int v_padLength, .ref h6, .int v_at, .int v_letter, .int v_hasUnder, .ref h7, .int v_numbersMany])), (h1, .inl (cI, 2628, .inl v_state))]) hD hS hA [0, 1] rfl
      refine va_calli (va_runV (As := [.int (v_numbers 0)]) (rest := []) ⟨hx, hb, hml, hown, hts⟩ (c_X7_isCell l dC dI cI cC cT h0 h1 h2 h3 h4 h5 h6 h7 H.size v_state v_recorded v_padLength v_at v_letter v_hasUnder v_numbersMany (v_numbers 0) q3 hq3) (cwV 1 hts gX7_doesOrder_X7_isCell rfl rfl rfl hv_X7_isCell ⟨Nat.le_of_ble_eq_true rfl, Nat.le_of_ble_eq_true rfl⟩) ⟨preB_fb, va_recv hK hPc (ci := 7) (q0 := 0) rfl rfl, fun U hU hW => preB_mk hU hW hPc hK hDc hN⟩ rfl rfl hl.1 rfl (lv_room (Nat.le_of_ble_eq_true rfl)) dX7_doesOrder_35 ⟨Nat.zero_le _, Nat.zero_le _⟩) hS (fun q _ h => hFc q h) hFc (fun r_ u_ t H locs ht hvm hw hB hz1 hk1 hS => ?_)
      have hw : r_ = q3 := hw
      have hw := hw.symm
      subst hw
      obtain ⟨hP, hD⟩ := x_join (ws' := [(h0, .inr (7, [.ref h1, .ref h2, .int v_recorded, .ref h3, .ref h4, .ref h5, .int v_padLength, .ref h6, .int v_at, .int v_letter, .int v_hasUnder, .ref h7, .int v_numbersMany])), (h1, .inl (cI, 2628, .inl v_state)), (h6, .inl (cI, 7, .inl v_found)), (h7, .inl (cI, 44, .inl v_numbers))]) hP hD [0, 1] [2, 3] rfl rfl (by decide) (by decide) hk1 hFc ht hB [2, 3, 0, 1] (by decide) rfl
      clear hPc hDc hFc hk1 hB ht hz1 hvm
      refine lv_istore_n (lv' := [(1, .int q3), (0, .ref h0)]) hx hb dX7_doesOrder_38 rfl hl (by decide) rfl (fun ls hl => ?_)
      refine lv_iload_n hx hb dX7_doesOrder_39 rfl (lv_at hl 0 rfl) ?_
      refine lv_if_eq (tgt := 54) hx hb dX7_doesOrder_40 (by decide) (fun c4 => ?_) (fun c4 => ?_)
      · replace hd := ite_t c4 hd
        refine lv_iload_n hx hb dX7_doesOrder_54 rfl (lv_at hl 0 rfl) ?_
        obtain ⟨g5, hd⟩ := gd_some hd
        cases hd
        exact hend (by rfl) (z_nar g5) hP hD hS dX7_doesOrder_55
      · replace hd := ite_f c4 hd
        refine lv_aload_n hx hb dX7_doesOrder_43 rfl (lv_at hl 1 rfl) ?_
        refine lv_aload_n hx hb dX7_doesOrder_44 rfl (lv_at hl 1 rfl) ?_
        refine va_get (D := (dC, dI)) (ci := 7) (v := .ref h7) (C := RX7) (T := TX7) (N := 13) hx hb hts inX7_doesOrder_X7 hown hK hP 0 rfl rfl 11 (by decide) (hts _ kX7_doesOrder_2) (fun _ h9 => h9) rfl dX7_doesOrder_45 ?_
        refine lv_iconst (v := 0) hx hb dX7_doesOrder_48 (by decide) ?_
        refine x_iald (k := 0) hx hb hK hP 3 0 rfl rfl (inb_in (by decide)) rfl dX7_doesOrder_49 ?_
        obtain ⟨q6, hq6, hd⟩ := bnd_some hd
        have hPc : va_P (dC, dI) vwCl [(h0, .inr (7, [.ref h1, .ref h2, .int v_recorded, .ref h3, .ref h4, .ref h5, .int v_padLength, .ref h6, .int v_at, .int v_letter, .int v_hasUnder, .ref h7, .int v_numbersMany])), (h1, .inl (cI, 2628, .inl v_state))] _ := hP.sub [0, 1] rfl
        have hDc := hD.sub (ws' := [(h0, .inr (7, [.ref h1, .ref h2, .int v_recorded, .ref h3, .ref h4, .ref h5, .int v_padLength, .ref h6, .int v_at, .int v_letter, .int v_hasUnder, .ref h7, .int v_numbersMany])), (h1, .inl (cI, 2628, .inl v_state))]) [0, 1] (by decide) rfl
        have hFc := va_free (wc := [(h0, .inr (7, [.ref h1, .ref h2, .int v_recorded, .ref h3, .ref h4, .ref h5, .int v_padLength, .ref h6, .int v_at, .int v_letter, .int v_hasUnder, .ref h7, .int v_numbersMany])), (h1, .inl (cI, 2628, .inl v_state))]) hD hS hA [0, 1] rfl
        refine va_calli (va_runV (As := [.int (v_numbers 0)]) (rest := []) ⟨hx, hb, hml, hown, hts⟩ (c_X7_turns l dC dI cI cC cT h0 h1 h2 h3 h4 h5 h6 h7 H.size v_state v_recorded v_padLength v_at v_letter v_hasUnder v_numbersMany (v_numbers 0) q6 hq6) (cwV 1 hts gX7_doesOrder_X7_turns rfl rfl rfl hv_X7_turns ⟨Nat.le_of_ble_eq_true rfl, Nat.le_of_ble_eq_true rfl⟩) ⟨preB_fb, va_recv hK hPc (ci := 7) (q0 := 0) rfl rfl, fun U hU hW => preB_mk hU hW hPc hK hDc hN⟩ rfl rfl hl.1 rfl (lv_room (Nat.le_of_ble_eq_true rfl)) dX7_doesOrder_50 ⟨Nat.zero_le _, Nat.zero_le _⟩) hS (fun q _ h => hFc q h) hFc (fun r_ u_ t H locs ht hvm hw hB hz1 hk1 hS => ?_)
        have hw : r_ = q6.1 := hw
        have hw := hw.symm
        subst hw
        obtain ⟨hP, hD⟩ := x_join (ws' := [(h0, .inr (7, [.ref h1, .ref h2, .int v_recorded, .ref h3, .ref h4, .ref h5, .int v_padLength, .ref h6, .int v_at, .int v_letter, .int v_hasUnder, .ref h7, .int v_numbersMany])), (h1, .inl (cI, 2628, .inl q6.2)), (h6, .inl (cI, 7, .inl v_found)), (h7, .inl (cI, 44, .inl v_numbers))]) hP hD [0, 1] [2, 3] rfl rfl (by decide) (by decide) hk1 hFc ht hB [2, 3, 0, 1] (by decide) rfl
        clear hPc hDc hFc hk1 hB ht hz1 hvm
        refine lv_pop hx hb dX7_doesOrder_53 rfl ?_
        refine lv_iload_n hx hb dX7_doesOrder_54 rfl (lv_at hl 0 rfl) ?_
        obtain ⟨g7, hd⟩ := gd_some hd
        cases hd
        exact hend (by rfl) (z_nar g7) hP hD hS dX7_doesOrder_55
    · replace hd := ite_t c2 hd
      refine lv_aload_n hx hb dX7_doesOrder_23 rfl (lv_at hl 0 rfl) ?_
      obtain ⟨q8, hq8, hd⟩ := bnd_some hd
      have hPc : va_P (dC, dI) vwCl [(h0, .inr (7, [.ref h1, .ref h2, .int v_recorded, .ref h3, .ref h4, .ref h5, .int v_padLength, .ref h6, .int v_at, .int v_letter, .int v_hasUnder, .ref h7, .int v_numbersMany])), (h1, .inl (cI, 2628, .inl v_state)), (h7, .inl (cI, 44, .inl v_numbers))] _ := hP.sub [0, 1, 3] rfl
      have hDc := hD.sub (ws' := [(h0, .inr (7, [.ref h1, .ref h2, .int v_recorded, .ref h3, .ref h4, .ref h5, .int v_padLength, .ref h6, .int v_at, .int v_letter, .int v_hasUnder, .ref h7, .int v_numbersMany])), (h1, .inl (cI, 2628, .inl v_state)), (h7, .inl (cI, 44, .inl v_numbers))]) [0, 1, 3] (by decide) rfl
      have hFc := va_free (wc := [(h0, .inr (7, [.ref h1, .ref h2, .int v_recorded, .ref h3, .ref h4, .ref h5, .int v_padLength, .ref h6, .int v_at, .int v_letter, .int v_hasUnder, .ref h7, .int v_numbersMany])), (h1, .inl (cI, 2628, .inl v_state)), (h7, .inl (cI, 44, .inl v_numbers))]) hD hS hA [0, 1, 3] rfl
      refine va_calli (va_runV (As := []) (rest := []) ⟨hx, hb, hml, hown, hts⟩ (c_X7_doesFade l dC dI cI cC cT h0 h1 h2 h3 h4 h5 h6 h7 H.size v_state v_recorded v_padLength v_at v_letter v_hasUnder v_numbers v_numbersMany q8 hq8) (cwV 0 hts gX7_doesOrder_X7_doesFade rfl rfl rfl hv_X7_doesFade ⟨Nat.le_of_ble_eq_true rfl, Nat.le_of_ble_eq_true rfl⟩) ⟨preB_fb, va_recv hK hPc (ci := 7) (q0 := 0) rfl rfl, fun U hU hW => preB_mk hU hW hPc hK hDc hN⟩ rfl rfl hl.1 rfl (lv_room (Nat.le_of_ble_eq_true rfl)) dX7_doesOrder_24 ⟨Nat.zero_le _, Nat.zero_le _⟩) hS (fun q _ h => hFc q h) hFc (fun r_ u_ t H locs ht hvm hw hB hz1 hk1 hS => ?_)
      have hw : r_ = q8.1 := hw
      have hw := hw.symm
      subst hw
      obtain ⟨hP, hD⟩ := x_join (ws' := [(h0, .inr (7, [.ref h1, .ref h2, .int v_recorded, .ref h3, .ref h4, .ref h5, .int v_padLength, .ref h6, .int v_at, .int v_letter, .int v_hasUnder, .ref h7, .int v_numbersMany])), (h1, .inl (cI, 2628, .inl q8.2)), (h6, .inl (cI, 7, .inl v_found)), (h7, .inl (cI, 44, .inl v_numbers))]) hP hD [0, 1, 3] [2] rfl rfl (by decide) (by decide) hk1 hFc ht hB [1, 2, 0, 3] (by decide) rfl
      clear hPc hDc hFc hk1 hB ht hz1 hvm
      obtain ⟨g9, hd⟩ := gd_some hd
      cases hd
      exact hend (by rfl) (z_nar g9) hP hD hS dX7_doesOrder_27
  · replace hd := ite_t c1 hd
    refine lv_aload_n hx hb dX7_doesOrder_9 rfl (lv_at hl 0 rfl) ?_
    obtain ⟨q10, hq10, hd⟩ := bnd_some hd
    have hPc : va_P (dC, dI) vwCl [(h0, .inr (7, [.ref h1, .ref h2, .int v_recorded, .ref h3, .ref h4, .ref h5, .int v_padLength, .ref h6, .int v_at, .int v_letter, .int v_hasUnder, .ref h7, .int v_numbersMany])), (h1, .inl (cI, 2628, .inl v_state)), (h6, .inl (cI, 7, .inl v_found)), (h7, .inl (cI, 44, .inl v_numbers))] _ := hP.sub [0, 1, 2, 3] rfl
    have hDc := hD.sub (ws' := [(h0, .inr (7, [.ref h1, .ref h2, .int v_recorded, .ref h3, .ref h4, .ref h5, .int v_padLength, .ref h6, .int v_at, .int v_letter, .int v_hasUnder, .ref h7, .int v_numbersMany])), (h1, .inl (cI, 2628, .inl v_state)), (h6, .inl (cI, 7, .inl v_found)), (h7, .inl (cI, 44, .inl v_numbers))]) [0, 1, 2, 3] (by decide) rfl
    have hFc := va_free (wc := [(h0, .inr (7, [.ref h1, .ref h2, .int v_recorded, .ref h3, .ref h4, .ref h5, .int v_padLength, .ref h6, .int v_at, .int v_letter, .int v_hasUnder, .ref h7, .int v_numbersMany])), (h1, .inl (cI, 2628, .inl v_state)), (h6, .inl (cI, 7, .inl v_found)), (h7, .inl (cI, 44, .inl v_numbers))]) hD hS hA [0, 1, 2, 3] rfl
    refine va_calli (va_runV (As := []) (rest := []) ⟨hx, hb, hml, hown, hts⟩ (c_X7_doesBlock l dC dI cI cC cT h0 h1 h2 h3 h4 h5 h6 h7 H.size v_state v_recorded v_padLength v_found v_at v_letter v_hasUnder v_numbers v_numbersMany q10 hq10) (cwV 0 hts gX7_doesOrder_X7_doesBlock rfl rfl rfl hv_X7_doesBlock ⟨Nat.le_of_ble_eq_true rfl, Nat.le_of_ble_eq_true rfl⟩) ⟨preB_fb, va_recv hK hPc (ci := 7) (q0 := 0) rfl rfl, fun U hU hW => preB_mk hU hW hPc hK hDc hN⟩ rfl rfl hl.1 rfl (lv_room (Nat.le_of_ble_eq_true rfl)) dX7_doesOrder_10 ⟨Nat.zero_le _, Nat.zero_le _⟩) hS (fun q _ h => hFc q h) hFc (fun r_ u_ t H locs ht hvm hw hB hz1 hk1 hS => ?_)
    have hw : r_ = q10.1 := hw
    have hw := hw.symm
    subst hw
    obtain ⟨hP, hD⟩ := x_join (ws' := [(h0, .inr (7, [.ref h1, .ref h2, .int v_recorded, .ref h3, .ref h4, .ref h5, .int v_padLength, .ref h6, .int v_at, .int v_letter, .int v_hasUnder, .ref h7, .int v_numbersMany])), (h1, .inl (cI, 2628, .inl q10.2.1)), (h6, .inl (cI, 7, .inl q10.2.2)), (h7, .inl (cI, 44, .inl v_numbers))]) hP hD [0, 1, 2, 3] [] rfl rfl (by decide) (by decide) hk1 hFc ht hB [0, 1, 2, 3] (by decide) rfl
    clear hPc hDc hFc hk1 hB ht hz1 hvm
    obtain ⟨g11, hd⟩ := gd_some hd
    cases hd
    exact hend (by rfl) (z_nar g11) hP hD hS dX7_doesOrder_13
def rmX7_carryOut : Room := { frames := 9, cells := 0, slots := 0, locals := 193 }
theorem kX7_carryOut_1 : (Cond.fieldLink RX7 177 "CassetteTonesModel" "at" "I") ∈ wsX7_carryOut := List.mem_of_getElem? (i := 1) (by decide +kernel)
theorem kX7_carryOut_2 : (Cond.fieldLink RX7 162 "CassetteTonesModel" "padLength" "I") ∈ wsX7_carryOut := List.mem_of_getElem? (i := 2) (by decide +kernel)
theorem inX7_carryOut_X7 : ∀ w ∈ wsX70, w ∈ wsX7_carryOut := by decide +kernel
theorem hp_X7_carryOut : yX7_carryOut.cls ≠ "java/lang/invoke/MethodHandle" ∧ yX7_carryOut.cls ≠ "java/lang/invoke/VarHandle" ∧ (parseMethodDescriptor yX7_carryOut.desc).map (fun d => d.parameters.length) = some 0 := by decide +kernel
theorem hv_X7_carryOut : yX7_carryOut.cls = RX7 ∧ yX7_carryOut.cls ≠ "java/lang/invoke/MethodHandle" ∧ yX7_carryOut.cls ≠ "java/lang/invoke/VarHandle" ∧ (parseMethodDescriptor yX7_carryOut.desc).map (fun d => d.parameters.length) = some 0 := by decide +kernel
set_option maxHeartbeats 4000000 in
set_option maxRecDepth 100000 in
theorem c_X7_carryOut (l : Launch) (dC : Nat → ClassId) (dI : Nat → Nat → Nat) (cI cC cT : ClassId) (h0 h1 h2 h3 h4 h5 h6 h7 : Nat) (sz : Nat) (v_state : (Nat → Int32)) (v_history : (Nat → Int32)) (v_recorded : Int32) (v_pad : (Nat → Int32)) (v_padLength : Int32) (v_found : (Nat → Int32)) (v_at : Int32) (v_letter : Int32) (v_hasUnder : Int32) (v_numbers : (Nat → Int32)) (v_numbersMany : Int32) (r : (Int32 × (Nat → Int32) × (Nat → Int32) × Int32 × Int32 × (Nat → Int32) × Int32 × Int32 × Int32 × (Nat → Int32) × Int32)) (hd : den_X7_carryOut v_state v_history v_recorded v_pad v_padLength v_found v_at v_letter v_hasUnder v_numbers v_numbersMany = some r) : Met l yX7_carryOut wsX7_carryOut rmX7_carryOut (va_Pc [.ref h0] (preB sz (dC, dI) [(h0, .inr (7, [.ref h1, .ref h2, .int v_recorded, .ref h3, .ref h4, .ref h5, .int v_padLength, .ref h6, .int v_at, .int v_letter, .int v_hasUnder, .ref h7, .int v_numbersMany])), (h1, .inl (cI, 2628, .inl v_state)), (h2, .inl (cI, 15768, .inl v_history)), (h5, .inl (cI, 80, .inl v_pad)), (h6, .inl (cI, 7, .inl v_found)), (h7, .inl (cI, 44, .inl v_numbers))] [(cI, .int), (cC, .char), (cT, .object "CassetteTones$Tape")])) (va_Qi (S := Unit) (fun v _ => v = r.1) (fun _ t => posB (dC, dI) [(h0, .inr (7, [.ref h1, .ref h2, .int r.2.2.2.1, .ref h3, .ref h4, .ref h5, .int r.2.2.2.2.1, .ref h6, .int r.2.2.2.2.2.2.1, .int r.2.2.2.2.2.2.2.1, .int r.2.2.2.2.2.2.2.2.1, .ref h7, .int r.2.2.2.2.2.2.2.2.2.2])), (h1, .inl (cI, 2628, .inl r.2.1)), (h2, .inl (cI, 15768, .inl r.2.2.1)), (h5, .inl (cI, 80, .inl v_pad)), (h6, .inl (cI, 7, .inl r.2.2.2.2.2.1)), (h7, .inl (cI, 44, .inl r.2.2.2.2.2.2.2.2.2.1))] [(cI, .int), (cC, .char), (cT, .object "CassetteTones$Tape")] (va_A [(h0, .inr (7, [.ref h1, .ref h2, .int v_recorded, .ref h3, .ref h4, .ref h5, .int v_padLength, .ref h6, .int v_at, .int v_letter, .int v_hasUnder, .ref h7, .int v_numbersMany])), (h1, .inl (cI, 2628, .inl v_state)), (h2, .inl (cI, 15768, .inl v_history)), (h5, .inl (cI, 80, .inl v_pad)), (h6, .inl (cI, 7, .inl v_found)), (h7, .inl (cI, 44, .inl v_numbers))] sz) t) (va_A [(h0, .inr (7, [.ref h1, .ref h2, .int v_recorded, .ref h3, .ref h4, .ref h5, .int v_padLength, .ref h6, .int v_at, .int v_letter, .int v_hasUnder, .ref h7, .int v_numbersMany])), (h1, .inl (cI, 2628, .inl v_state)), (h2, .inl (cI, 15768, .inl v_history)), (h5, .inl (cI, 80, .inl v_pad)), (h6, .inl (cI, 7, .inl v_found)), (h7, .inl (cI, 44, .inl v_numbers))] sz)) 0 0 (va_A [(h0, .inr (7, [.ref h1, .ref h2, .int v_recorded, .ref h3, .ref h4, .ref h5, .int v_padLength, .ref h6, .int v_at, .int v_letter, .int v_hasUnder, .ref h7, .int v_numbersMany])), (h1, .inl (cI, 2628, .inl v_state)), (h2, .inl (cI, 15768, .inl v_history)), (h5, .inl (cI, 80, .inl v_pad)), (h6, .inl (cI, 7, .inl v_found)), (h7, .inl (cI, 44, .inl v_numbers))] sz) := by
  refine x_met_i (by decide) rfl (Nat.le_of_ble_eq_true rfl) ?_
  intro p e s m args below meth c A Q H locs ls hx hb hml hown hts hK hN hA hP hD hS hl hend
  have hown : s.vm.findClass RX7 = some m.cls := hown
  have hl : lv_has ls 3 [(0, .ref h0)] := hl
  unfold den_X7_carryOut at hd
  refine lv_aload_n hx hb dX7_carryOut_0 rfl (lv_at hl 0 rfl) ?_
  obtain ⟨q1, hq1, hd⟩ := bnd_some hd
  have hPc : va_P (dC, dI) vwCl [(h0, .inr (7, [.ref h1, .ref h2, .int v_recorded, .ref h3, .ref h4, .ref h5, .int v_padLength, .ref h6, .int v_at, .int v_letter, .int v_hasUnder, .ref h7, .int v_numbersMany])), (h5, .inl (cI, 80, .inl v_pad)), (h7, .inl (cI, 44, .inl v_numbers))] _ := hP.sub [0, 3, 5] rfl
  have hDc := hD.sub (ws' := [(h0, .inr (7, [.ref h1, .ref h2, .int v_recorded, .ref h3, .ref h4, .ref h5, .int v_padLength, .ref h6, .int v_at, .int v_letter, .int v_hasUnder, .ref h7, .int v_numbersMany])), (h5, .inl (cI, 80, .inl v_pad)), (h7, .inl (cI, 44, .inl v_numbers))]) [0, 3, 5] (by decide) rfl
  have hFc := va_free (wc := [(h0, .inr (7, [.ref h1, .ref h2, .int v_recorded, .ref h3, .ref h4, .ref h5, .int v_padLength, .ref h6, .int v_at, .int v_letter, .int v_hasUnder, .ref h7, .int v_numbersMany])), (h5, .inl (cI, 80, .inl v_pad)), (h7, .inl (cI, 44, .inl v_numbers))]) hD hS hA [0, 3, 5] rfl
  refine va_calli (va_runV (As := []) (rest := []) ⟨hx, hb, hml, hown, hts⟩ (c_X7_findFault l dC dI cI cC cT h0 h1 h2 h3 h4 h5 h6 h7 H.size v_recorded v_pad v_padLength v_at v_letter v_hasUnder v_numbers v_numbersMany q1 hq1) (cwV 0 hts gX7_carryOut_X7_findFault rfl rfl rfl hv_X7_findFault ⟨Nat.le_of_ble_eq_true rfl, Nat.le_of_ble_eq_true rfl⟩) ⟨preB_fb, va_recv hK hPc (ci := 7) (q0 := 0) rfl rfl, fun U hU hW => preB_mk hU hW hPc hK hDc hN⟩ rfl rfl hl.1 rfl (lv_room (Nat.le_of_ble_eq_true rfl)) dX7_carryOut_1 ⟨Nat.zero_le _, Nat.zero_le _⟩) hS (fun q _ h => hFc q h) hFc (fun r_ u_ t H locs ht hvm hw hB hz1 hk1 hS => ?_)
  have hw : r_ = q1.1 := hw
  have hw := hw.symm
  subst hw
  obtain ⟨hP, hD⟩ := x_join (ws' := [(h0, .inr (7, [.ref h1, .ref h2, .int v_recorded, .ref h3, .ref h4, .ref h5, .int v_padLength, .ref h6, .int q1.2.1, .int q1.2.2.1, .int q1.2.2.2.1, .ref h7, .int q1.2.2.2.2.2])), (h1, .inl (cI, 2628, .inl v_state)), (h2, .inl (cI, 15768, .inl v_history)), (h5, .inl (cI, 80, .inl v_pad)), (h6, .inl (cI, 7, .inl v_found)), (h7, .inl (cI, 44, .inl q1.2.2.2.2.1))]) hP hD [0, 3, 5] [1, 2, 4] rfl rfl (by decide) (by decide) hk1 hFc ht hB [3, 0, 1, 4, 2, 5] (by decide) rfl
  clear hPc hDc hFc hk1 hB ht hz1 hvm
  refine lv_bipush (v := -6) hx hb dX7_carryOut_4 (by decide) ?_
  refine lv_icmp_eq (tgt := 12) hx hb dX7_carryOut_6 (by decide) (fun c2 => ?_) (fun c2 => ?_)
  · replace hd := ite_t c2 hd
    refine lv_aload_n hx hb dX7_carryOut_12 rfl (lv_at hl 0 rfl) ?_
    obtain ⟨q3, hq3, hd⟩ := bnd_some hd
    have hPc : va_P (dC, dI) vwCl [(h0, .inr (7, [.ref h1, .ref h2, .int v_recorded, .ref h3, .ref h4, .ref h5, .int v_padLength, .ref h6, .int q1.2.1, .int q1.2.2.1, .int q1.2.2.2.1, .ref h7, .int q1.2.2.2.2.2])), (h1, .inl (cI, 2628, .inl v_state)), (h2, .inl (cI, 15768, .inl v_history))] _ := hP.sub [0, 1, 2] rfl
    have hDc := hD.sub (ws' := [(h0, .inr (7, [.ref h1, .ref h2, .int v_recorded, .ref h3, .ref h4, .ref h5, .int v_padLength, .ref h6, .int q1.2.1, .int q1.2.2.1, .int q1.2.2.2.1, .ref h7, .int q1.2.2.2.2.2])), (h1, .inl (cI, 2628, .inl v_state)), (h2, .inl (cI, 15768, .inl v_history))]) [0, 1, 2] (by decide) rfl
    have hFc := va_free (wc := [(h0, .inr (7, [.ref h1, .ref h2, .int v_recorded, .ref h3, .ref h4, .ref h5, .int v_padLength, .ref h6, .int q1.2.1, .int q1.2.2.1, .int q1.2.2.2.1, .ref h7, .int q1.2.2.2.2.2])), (h1, .inl (cI, 2628, .inl v_state)), (h2, .inl (cI, 15768, .inl v_history))]) hD hS hA [0, 1, 2] rfl
    refine va_callv (va_runV (As := []) (rest := []) ⟨hx, hb, hml, hown, hts⟩ (c_X7_record l dC dI cI cC cT h0 h1 h2 h3 h4 h5 h6 h7 H.size v_state v_history v_recorded v_padLength q1.2.1 q1.2.2.1 q1.2.2.2.1 q1.2.2.2.2.2 q3 hq3) (cwV 0 hts gX7_carryOut_X7_record rfl rfl rfl hv_X7_record ⟨Nat.le_of_ble_eq_true rfl, Nat.le_of_ble_eq_true rfl⟩) ⟨preB_fb, va_recv hK hPc (ci := 7) (q0 := 0) rfl rfl, fun U hU hW => preB_mk hU hW hPc hK hDc hN⟩ rfl rfl hl.1 rfl (lv_room (Nat.le_of_ble_eq_true rfl)) dX7_carryOut_13 ⟨Nat.zero_le _, Nat.zero_le _⟩) hS (fun q _ h => hFc q h) hFc (fun u_ t H locs ht hvm hw hB hz1 hk1 hS => ?_)
    obtain ⟨hP, hD⟩ := x_join (ws' := [(h0, .inr (7, [.ref h1, .ref h2, .int q3.2, .ref h3, .ref h4, .ref h5, .int v_padLength, .ref h6, .int q1.2.1, .int q1.2.2.1, .int q1.2.2.2.1, .ref h7, .int q1.2.2.2.2.2])), (h1, .inl (cI, 2628, .inl v_state)), (h2, .inl (cI, 15768, .inl q3.1)), (h5, .inl (cI, 80, .inl v_pad)), (h6, .inl (cI, 7, .inl v_found)), (h7, .inl (cI, 44, .inl q1.2.2.2.2.1))]) hP hD [0, 1, 2] [3, 4, 5] rfl rfl (by decide) (by decide) hk1 hFc ht hB [3, 4, 5, 0, 1, 2] (by decide) rfl
    clear hPc hDc hFc hk1 hB ht hz1 hvm
    refine lv_iconst (v := 0) hx hb dX7_carryOut_16 (by decide) ?_
    refine lv_istore_n (lv' := [(1, .int (0 : Int32)), (0, .ref h0)]) hx hb dX7_carryOut_17 rfl hl (by decide) rfl (fun ls hl => ?_)
    refine lv_aload_n hx hb dX7_carryOut_18 rfl (lv_at hl 1 rfl) ?_
    refine lv_iconst (v := 0) hx hb dX7_carryOut_19 (by decide) ?_
    refine va_put (D := (dC, dI)) (ci := 7) (v := .int (0 : Int32)) (ty := .int) (C := RX7) (T := TX7) (N := 13) hx hb hts inX7_carryOut_X7 tyX7 tyX7_ok nmX7 hown hK hP hD hS 0 rfl rfl 8 (by decide) (hts _ kX7_carryOut_1) (fun _ h9 => h9) rfl (by decide +kernel) rfl rfl (Nat.le_of_ble_eq_true rfl) dX7_carryOut_20 (fun H locs hP hD hS => ?_)
    have hP : va_P (dC, dI) vwCl [(h0, .inr (7, [.ref h1, .ref h2, .int q3.2, .ref h3, .ref h4, .ref h5, .int v_padLength, .ref h6, .int (0 : Int32), .int q1.2.2.1, .int q1.2.2.2.1, .ref h7, .int q1.2.2.2.2.2])), (h1, .inl (cI, 2628, .inl v_state)), (h2, .inl (cI, 15768, .inl q3.1)), (h5, .inl (cI, 80, .inl v_pad)), (h6, .inl (cI, 7, .inl v_found)), (h7, .inl (cI, 44, .inl q1.2.2.2.2.1))] H := hP
    have hD : va_D A [(h0, .inr (7, [.ref h1, .ref h2, .int q3.2, .ref h3, .ref h4, .ref h5, .int v_padLength, .ref h6, .int (0 : Int32), .int q1.2.2.1, .int q1.2.2.2.1, .ref h7, .int q1.2.2.2.2.2])), (h1, .inl (cI, 2628, .inl v_state)), (h2, .inl (cI, 15768, .inl q3.1)), (h5, .inl (cI, 80, .inl v_pad)), (h6, .inl (cI, 7, .inl v_found)), (h7, .inl (cI, 44, .inl q1.2.2.2.2.1))] := hD
    refine lv_iconst (v := 1) hx hb dX7_carryOut_23 (by decide) ?_
    refine lv_istore_n (lv' := [(2, .int (1 : Int32)), (1, .int (0 : Int32)), (0, .ref h0)]) hx hb dX7_carryOut_24 rfl hl (by decide) rfl (fun ls hl => ?_)
    obtain ⟨q4, hq4, hd⟩ := bnd_some hd
    have Kq4 : ∀ (H : Heap) (locs : List Loc) (ls : Array Slot), va_P (dC, dI) vwCl [(h0, .inr (7, [.ref h1, .ref h2, .int q3.2, .ref h3, .ref h4, .ref h5, .int v_padLength, .ref h6, .int q4.2.2.2.1, .int q4.2.2.2.2.1, .int q4.2.2.2.2.2.1, .ref h7, .int q4.2.2.2.2.2.2.2])), (h1, .inl (cI, 2628, .inl q4.2.1)), (h2, .inl (cI, 15768, .inl q3.1)), (h5, .inl (cI, 80, .inl v_pad)), (h6, .inl (cI, 7, .inl q4.2.2.1)), (h7, .inl (cI, 44, .inl q4.2.2.2.2.2.2.1))] H → va_D A [(h0, .inr (7, [.ref h1, .ref h2, .int q3.2, .ref h3, .ref h4, .ref h5, .int v_padLength, .ref h6, .int q4.2.2.2.1, .int q4.2.2.2.2.1, .int q4.2.2.2.2.2.1, .ref h7, .int q4.2.2.2.2.2.2.2])), (h1, .inl (cI, 2628, .inl q4.2.1)), (h2, .inl (cI, 15768, .inl q3.1)), (h5, .inl (cI, 80, .inl v_pad)), (h6, .inl (cI, 7, .inl q4.2.2.1)), (h7, .inl (cI, 44, .inl q4.2.2.2.2.2.2.1))] → va_S A s.heap H locs → lv_has ls 3 [(0, .ref h0), (1, .int q4.1)] → W p l e rmX7_carryOut s m args below meth c H locs 0 0 Q (F0 m 72 ls []) := by
      intro H locs ls hP hD hS hl
      refine lv_aload_n hx hb dX7_carryOut_72 rfl (lv_at hl 0 rfl) ?_
      refine lv_iconst (v := 0) hx hb dX7_carryOut_73 (by decide) ?_
      refine va_put (D := (dC, dI)) (ci := 7) (v := .int (0 : Int32)) (ty := .int) (C := RX7) (T := TX7) (N := 13) hx hb hts inX7_carryOut_X7 tyX7 tyX7_ok nmX7 hown hK hP hD hS 0 rfl rfl 6 (by decide) (hts _ kX7_carryOut_2) (fun _ h9 => h9) rfl (by decide +kernel) rfl rfl (Nat.le_of_ble_eq_true rfl) dX7_carryOut_74 (fun H locs hP hD hS => ?_)
      have hP : va_P (dC, dI) vwCl [(h0, .inr (7, [.ref h1, .ref h2, .int q3.2, .ref h3, .ref h4, .ref h5, .int (0 : Int32), .ref h6, .int q4.2.2.2.1, .int q4.2.2.2.2.1, .int q4.2.2.2.2.2.1, .ref h7, .int q4.2.2.2.2.2.2.2])), (h1, .inl (cI, 2628, .inl q4.2.1)), (h2, .inl (cI, 15768, .inl q3.1)), (h5, .inl (cI, 80, .inl v_pad)), (h6, .inl (cI, 7, .inl q4.2.2.1)), (h7, .inl (cI, 44, .inl q4.2.2.2.2.2.2.1))] H := hP
      have hD : va_D A [(h0, .inr (7, [.ref h1, .ref h2, .int q3.2, .ref h3, .ref h4, .ref h5, .int (0 : Int32), .ref h6, .int q4.2.2.2.1, .int q4.2.2.2.2.1, .int q4.2.2.2.2.2.1, .ref h7, .int q4.2.2.2.2.2.2.2])), (h1, .inl (cI, 2628, .inl q4.2.1)), (h2, .inl (cI, 15768, .inl q3.1)), (h5, .inl (cI, 80, .inl v_pad)), (h6, .inl (cI, 7, .inl q4.2.2.1)), (h7, .inl (cI, 44, .inl q4.2.2.2.2.2.2.1))] := hD
      refine lv_iload_n hx hb dX7_carryOut_77 rfl (lv_at hl 1 rfl) ?_
      cases hd
      exact hend (by rfl) hP hD hS dX7_carryOut_78
    clear hd
    have KL11 : ∀ (fu : Nat) (y1_25 : Int32) (y2_25 : Int32) (v_state_25 : (Nat → Int32)) (v_found_25 : (Nat → Int32)) (v_at_25 : Int32) (v_letter_25 : Int32) (v_hasUnder_25 : Int32) (v_numbers_25 : (Nat → Int32)) (v_numbersMany_25 : Int32) (hd : den_X7_carryOut_L25 v_pad v_padLength fu y1_25 y2_25 v_state_25 v_found_25 v_at_25 v_letter_25 v_hasUnder_25 v_numbers_25 v_numbersMany_25 = some q4) (H : Heap) (locs : List Loc) (ls : Array Slot), va_P (dC, dI) vwCl [(h0, .inr (7, [.ref h1, .ref h2, .int q3.2, .ref h3, .ref h4, .ref h5, .int v_padLength, .ref h6, .int v_at_25, .int v_letter_25, .int v_hasUnder_25, .ref h7, .int v_numbersMany_25])), (h1, .inl (cI, 2628, .inl v_state_25)), (h2, .inl (cI, 15768, .inl q3.1)), (h5, .inl (cI, 80, .inl v_pad)), (h6, .inl (cI, 7, .inl v_found_25)), (h7, .inl (cI, 44, .inl v_numbers_25))] H → va_D A [(h0, .inr (7, [.ref h1, .ref h2, .int q3.2, .ref h3, .ref h4, .ref h5, .int v_padLength, .ref h6, .int v_at_25, .int v_letter_25, .int v_hasUnder_25, .ref h7, .int v_numbersMany_25])), (h1, .inl (cI, 2628, .inl v_state_25)), (h2, .inl (cI, 15768, .inl q3.1)), (h5, .inl (cI, 80, .inl v_pad)), (h6, .inl (cI, 7, .inl v_found_25)), (h7, .inl (cI, 44, .inl v_numbers_25))] → va_S A s.heap H locs → lv_has ls 3 [(0, .ref h0), (1, .int y1_25), (2, .int y2_25)] → W p l e rmX7_carryOut s m args below meth c H locs 0 0 Q (F0 m 25 ls []) := by
      intro fu
      induction fu with
      | zero => intro y1_25 y2_25 v_state_25 v_found_25 v_at_25 v_letter_25 v_hasUnder_25 v_numbers_25 v_numbersMany_25 hd; exact no_some hd
      | succ fu ih =>
        intro y1_25 y2_25 v_state_25 v_found_25 v_at_25 v_letter_25 v_hasUnder_25 v_numbers_25 v_numbersMany_25 hd H locs ls hP hD hS hl
        rw [den_X7_carryOut_L25] at hd
        refine lv_iload_n hx hb dX7_carryOut_25 rfl (lv_at hl 2 rfl) ?_
        refine lv_if_eq (tgt := 72) hx hb dX7_carryOut_26 (by decide) (fun c5 => ?_) (fun c5 => ?_)
        · replace hd := ite_t c5 hd
          cases hd
          exact Kq4 _ _ _ hP hD hS (lv_sub hl [0, 1] rfl)
        · replace hd := ite_f c5 hd
          refine lv_aload_n hx hb dX7_carryOut_29 rfl (lv_at hl 0 rfl) ?_
          refine va_get (D := (dC, dI)) (ci := 7) (v := .int v_at_25) (C := RX7) (T := TX7) (N := 13) hx hb hts inX7_carryOut_X7 hown hK hP 0 rfl rfl 8 (by decide) (hts _ kX7_carryOut_1) (fun _ h9 => h9) rfl dX7_carryOut_30 ?_
          refine lv_aload_n hx hb dX7_carryOut_33 rfl (lv_at hl 0 rfl) ?_
          refine va_get (D := (dC, dI)) (ci := 7) (v := .int v_padLength) (C := RX7) (T := TX7) (N := 13) hx hb hts inX7_carryOut_X7 hown hK hP 0 rfl rfl 6 (by decide) (hts _ kX7_carryOut_2) (fun _ h9 => h9) rfl dX7_carryOut_34 ?_
          refine lv_icmp_ge (tgt := 72) hx hb dX7_carryOut_37 (by decide) (fun c6 => ?_) (fun c6 => ?_)
          · replace hd := ite_t c6 hd
            cases hd
            exact Kq4 _ _ _ hP hD hS (lv_sub hl [0, 1] rfl)
          · replace hd := ite_f c6 hd
            refine lv_aload_n hx hb dX7_carryOut_40 rfl (lv_at hl 0 rfl) ?_
            obtain ⟨q7, hq7, hd⟩ := bnd_some hd
            have hPc : va_P (dC, dI) vwCl [(h0, .inr (7, [.ref h1, .ref h2, .int q3.2, .ref h3, .ref h4, .ref h5, .int v_padLength, .ref h6, .int v_at_25, .int v_letter_25, .int v_hasUnder_25, .ref h7, .int v_numbersMany_25])), (h5, .inl (cI, 80, .inl v_pad)), (h7, .inl (cI, 44, .inl v_numbers_25))] _ := hP.sub [0, 3, 5] rfl
            have hDc := hD.sub (ws' := [(h0, .inr (7, [.ref h1, .ref h2, .int q3.2, .ref h3, .ref h4, .ref h5, .int v_padLength, .ref h6, .int v_at_25, .int v_letter_25, .int v_hasUnder_25, .ref h7, .int v_numbersMany_25])), (h5, .inl (cI, 80, .inl v_pad)), (h7, .inl (cI, 44, .inl v_numbers_25))]) [0, 3, 5] (by decide) rfl
            have hFc := va_free (wc := [(h0, .inr (7, [.ref h1, .ref h2, .int q3.2, .ref h3, .ref h4, .ref h5, .int v_padLength, .ref h6, .int v_at_25, .int v_letter_25, .int v_hasUnder_25, .ref h7, .int v_numbersMany_25])), (h5, .inl (cI, 80, .inl v_pad)), (h7, .inl (cI, 44, .inl v_numbers_25))]) hD hS hA [0, 3, 5] rfl
            refine va_calli (va_runV (As := []) (rest := []) ⟨hx, hb, hml, hown, hts⟩ (c_X7_readsOrder l dC dI cI cC cT h0 h1 h2 h3 h4 h5 h6 h7 H.size q3.2 v_pad v_padLength v_at_25 v_letter_25 v_hasUnder_25 v_numbers_25 v_numbersMany_25 q7 hq7) (cwV 0 hts gX7_carryOut_X7_readsOrder rfl rfl rfl hv_X7_readsOrder ⟨Nat.le_of_ble_eq_true rfl, Nat.le_of_ble_eq_true rfl⟩) ⟨preB_fb, va_recv hK hPc (ci := 7) (q0 := 0) rfl rfl, fun U hU hW => preB_mk hU hW hPc hK hDc hN⟩ rfl rfl hl.1 rfl (lv_room (Nat.le_of_ble_eq_true rfl)) dX7_carryOut_41 ⟨Nat.zero_le _, Nat.zero_le _⟩) hS (fun q _ h => hFc q h) hFc (fun r_ u_ t H locs ht hvm hw hB hz1 hk1 hS => ?_)
            have hw : r_ = q7.1 := hw
            have hw := hw.symm
            subst hw
            obtain ⟨hP, hD⟩ := x_join (ws' := [(h0, .inr (7, [.ref h1, .ref h2, .int q3.2, .ref h3, .ref h4, .ref h5, .int v_padLength, .ref h6, .int q7.2.1, .int q7.2.2.1, .int q7.2.2.2.1, .ref h7, .int q7.2.2.2.2.2])), (h1, .inl (cI, 2628, .inl v_state_25)), (h2, .inl (cI, 15768, .inl q3.1)), (h5, .inl (cI, 80, .inl v_pad)), (h6, .inl (cI, 7, .inl v_found_25)), (h7, .inl (cI, 44, .inl q7.2.2.2.2.1))]) hP hD [0, 3, 5] [1, 2, 4] rfl rfl (by decide) (by decide) hk1 hFc ht hB [3, 0, 1, 4, 2, 5] (by decide) rfl
            clear hPc hDc hFc hk1 hB ht hz1 hvm
            refine lv_pop hx hb dX7_carryOut_44 rfl ?_
            refine lv_aload_n hx hb dX7_carryOut_45 rfl (lv_at hl 0 rfl) ?_
            refine lv_bipush (v := 59) hx hb dX7_carryOut_46 (by decide) ?_
            obtain ⟨q8, hq8, hd⟩ := bnd_some hd
            have hPc : va_P (dC, dI) vwCl [(h0, .inr (7, [.ref h1, .ref h2, .int q3.2, .ref h3, .ref h4, .ref h5, .int v_padLength, .ref h6, .int q7.2.1, .int q7.2.2.1, .int q7.2.2.2.1, .ref h7, .int q7.2.2.2.2.2])), (h5, .inl (cI, 80, .inl v_pad))] _ := hP.sub [0, 3] rfl
            have hDc := hD.sub (ws' := [(h0, .inr (7, [.ref h1, .ref h2, .int q3.2, .ref h3, .ref h4, .ref h5, .int v_padLength, .ref h6, .int q7.2.1, .int q7.2.2.1, .int q7.2.2.2.1, .ref h7, .int q7.2.2.2.2.2])), (h5, .inl (cI, 80, .inl v_pad))]) [0, 3] (by decide) rfl
            have hFc := va_free (wc := [(h0, .inr (7, [.ref h1, .ref h2, .int q3.2, .ref h3, .ref h4, .ref h5, .int v_padLength, .ref h6, .int q7.2.1, .int q7.2.2.1, .int q7.2.2.2.1, .ref h7, .int q7.2.2.2.2.2])), (h5, .inl (cI, 80, .inl v_pad))]) hD hS hA [0, 3] rfl
            refine va_calli (va_runV (As := [.int (59 : Int32)]) (rest := []) ⟨hx, hb, hml, hown, hts⟩ (c_X7_isNext l dC dI cI cC cT h0 h1 h2 h3 h4 h5 h6 h7 H.size q3.2 v_pad v_padLength q7.2.1 q7.2.2.1 q7.2.2.2.1 q7.2.2.2.2.2 (59 : Int32) q8 hq8) (cwV 1 hts gX7_carryOut_X7_isNext rfl rfl rfl hv_X7_isNext ⟨Nat.le_of_ble_eq_true rfl, Nat.le_of_ble_eq_true rfl⟩) ⟨preB_fb, va_recv hK hPc (ci := 7) (q0 := 0) rfl rfl, fun U hU hW => preB_mk hU hW hPc hK hDc hN⟩ rfl rfl hl.1 rfl (lv_room (Nat.le_of_ble_eq_true rfl)) dX7_carryOut_48 ⟨Nat.zero_le _, Nat.zero_le _⟩) hS (fun q _ h => hFc q h) hFc (fun r_ u_ t H locs ht hvm hw hB hz1 hk1 hS => ?_)
            have hw : r_ = q8.1 := hw
            have hw := hw.symm
            subst hw
            obtain ⟨hP, hD⟩ := x_join (ws' := [(h0, .inr (7, [.ref h1, .ref h2, .int q3.2, .ref h3, .ref h4, .ref h5, .int v_padLength, .ref h6, .int q8.2, .int q7.2.2.1, .int q7.2.2.2.1, .ref h7, .int q7.2.2.2.2.2])), (h1, .inl (cI, 2628, .inl v_state_25)), (h2, .inl (cI, 15768, .inl q3.1)), (h5, .inl (cI, 80, .inl v_pad)), (h6, .inl (cI, 7, .inl v_found_25)), (h7, .inl (cI, 44, .inl q7.2.2.2.2.1))]) hP hD [0, 3] [1, 2, 4, 5] rfl rfl (by decide) (by decide) hk1 hFc ht hB [4, 0, 1, 5, 2, 3] (by decide) rfl
            clear hPc hDc hFc hk1 hB ht hz1 hvm
            refine lv_pop hx hb dX7_carryOut_51 rfl ?_
            refine lv_aload_n hx hb dX7_carryOut_52 rfl (lv_at hl 0 rfl) ?_
            obtain ⟨q9, hq9, hd⟩ := bnd_some hd
            have hPc : va_P (dC, dI) vwCl [(h0, .inr (7, [.ref h1, .ref h2, .int q3.2, .ref h3, .ref h4, .ref h5, .int v_padLength, .ref h6, .int q8.2, .int q7.2.2.1, .int q7.2.2.2.1, .ref h7, .int q7.2.2.2.2.2])), (h1, .inl (cI, 2628, .inl v_state_25)), (h6, .inl (cI, 7, .inl v_found_25)), (h7, .inl (cI, 44, .inl q7.2.2.2.2.1))] _ := hP.sub [0, 1, 4, 5] rfl
            have hDc := hD.sub (ws' := [(h0, .inr (7, [.ref h1, .ref h2, .int q3.2, .ref h3, .ref h4, .ref h5, .int v_padLength, .ref h6, .int q8.2, .int q7.2.2.1, .int q7.2.2.2.1, .ref h7, .int q7.2.2.2.2.2])), (h1, .inl (cI, 2628, .inl v_state_25)), (h6, .inl (cI, 7, .inl v_found_25)), (h7, .inl (cI, 44, .inl q7.2.2.2.2.1))]) [0, 1, 4, 5] (by decide) rfl
            have hFc := va_free (wc := [(h0, .inr (7, [.ref h1, .ref h2, .int q3.2, .ref h3, .ref h4, .ref h5, .int v_padLength, .ref h6, .int q8.2, .int q7.2.2.1, .int q7.2.2.2.1, .ref h7, .int q7.2.2.2.2.2])), (h1, .inl (cI, 2628, .inl v_state_25)), (h6, .inl (cI, 7, .inl v_found_25)), (h7, .inl (cI, 44, .inl q7.2.2.2.2.1))]) hD hS hA [0, 1, 4, 5] rfl
            refine va_calli (va_runV (As := []) (rest := []) ⟨hx, hb, hml, hown, hts⟩ (c_X7_doesOrder l dC dI cI cC cT h0 h1 h2 h3 h4 h5 h6 h7 H.size v_state_25 q3.2 v_padLength v_found_25 q8.2 q7.2.2.1 q7.2.2.2.1 q7.2.2.2.2.1 q7.2.2.2.2.2 q9 hq9) (cwV 0 hts gX7_carryOut_X7_doesOrder rfl rfl rfl hv_X7_doesOrder ⟨Nat.le_of_ble_eq_true rfl, Nat.le_of_ble_eq_true rfl⟩) ⟨preB_fb, va_recv hK hPc (ci := 7) (q0 := 0) rfl rfl, fun U hU hW => preB_mk hU hW hPc hK hDc hN⟩ rfl rfl hl.1 rfl (lv_room (Nat.le_of_ble_eq_true rfl)) dX7_carryOut_53 ⟨Nat.zero_le _, Nat.zero_le _⟩) hS (fun q _ h => hFc q h) hFc (fun r_ u_ t H locs ht hvm hw hB hz1 hk1 hS => ?_)
            have hw : r_ = q9.1 := hw
            have hw := hw.symm
            subst hw
            obtain ⟨hP, hD⟩ := x_join (ws' := [(h0, .inr (7, [.ref h1, .ref h2, .int q3.2, .ref h3, .ref h4, .ref h5, .int v_padLength, .ref h6, .int q8.2, .int q7.2.2.1, .int q7.2.2.2.1, .ref h7, .int q7.2.2.2.2.2])), (h1, .inl (cI, 2628, .inl q9.2.1)), (h2, .inl (cI, 15768, .inl q3.1)), (h5, .inl (cI, 80, .inl v_pad)), (h6, .inl (cI, 7, .inl q9.2.2)), (h7, .inl (cI, 44, .inl q7.2.2.2.2.1))]) hP hD [0, 1, 4, 5] [2, 3] rfl rfl (by decide) (by decide) hk1 hFc ht hB [2, 3, 0, 1, 4, 5] (by decide) rfl
            clear hPc hDc hFc hk1 hB ht hz1 hvm
            refine lv_istore_n (lv' := [(2, .int q9.1), (0, .ref h0), (1, .int y1_25)]) hx hb dX7_carryOut_56 rfl hl (by decide) rfl (fun ls hl => ?_)
            refine lv_iload_n hx hb dX7_carryOut_57 rfl (lv_at hl 2 rfl) ?_
            refine lv_iload_n hx hb dX7_carryOut_58 rfl (lv_at hl 0 rfl) ?_
            refine lv_if_eq (tgt := 66) hx hb dX7_carryOut_59 (by decide) (fun c10 => ?_) (fun c10 => ?_)
            · replace hd := ite_t c10 hd
              refine lv_iconst (v := 0) hx hb dX7_carryOut_66 (by decide) ?_
              refine lv_iadd hx hb dX7_carryOut_67 ?_
              refine lv_istore_n (lv' := [(1, .int (y1_25 + (0 : Int32))), (2, .int q9.1), (0, .ref h0)]) hx hb dX7_carryOut_68 rfl hl (by decide) rfl (fun ls hl => ?_)
              refine lv_goto (tgt := 25) hx hb dX7_carryOut_69 (by decide) ?_
              exact ih (y1_25 + (0 : Int32)) q9.1 q9.2.1 q9.2.2 q8.2 q7.2.2.1 q7.2.2.2.1 q7.2.2.2.2.1 q7.2.2.2.2.2 hd _ _ _ hP hD hS (lv_sub hl [2, 0, 1] rfl)
            · replace hd := ite_f c10 hd
              refine lv_iconst (v := 1) hx hb dX7_carryOut_62 (by decide) ?_
              refine lv_goto (tgt := 67) hx hb dX7_carryOut_63 (by decide) ?_
              refine lv_iadd hx hb dX7_carryOut_67 ?_
              refine lv_istore_n (lv' := [(1, .int (y1_25 + (1 : Int32))), (2, .int q9.1), (0, .ref h0)]) hx hb dX7_carryOut_68 rfl hl (by decide) rfl (fun ls hl => ?_)
              refine lv_goto (tgt := 25) hx hb dX7_carryOut_69 (by decide) ?_
              exact ih (y1_25 + (1 : Int32)) q9.1 q9.2.1 q9.2.2 q8.2 q7.2.2.1 q7.2.2.2.1 q7.2.2.2.2.1 q7.2.2.2.2.2 hd _ _ _ hP hD hS (lv_sub hl [2, 0, 1] rfl)
    exact KL11 FU (0 : Int32) (1 : Int32) v_state v_found (0 : Int32) q1.2.2.1 q1.2.2.2.1 q1.2.2.2.2.1 q1.2.2.2.2.2 hq4 _ _ _ hP hD hS (lv_sub hl [2, 1, 0] rfl)
  · replace hd := ite_f c2 hd
    refine lv_bipush (v := -3) hx hb dX7_carryOut_9 (by decide) ?_
    cases hd
    exact hend (by rfl) hP hD hS dX7_carryOut_11
def rmX7_undo : Room := { frames := 1, cells := 0, slots := 0, locals := 24 }
theorem kX7_undo_1 : (Cond.fieldLink RX7 31 "CassetteTonesModel" "recorded" "I") ∈ wsX7_undo := List.mem_of_getElem? (i := 1) (by decide +kernel)
theorem kX7_undo_2 : (Cond.fieldLink RX7 13 "CassetteTonesModel" "history" "[I") ∈ wsX7_undo := List.mem_of_getElem? (i := 2) (by decide +kernel)
theorem kX7_undo_3 : (Cond.fieldLink RX7 7 "CassetteTonesModel" "state" "[I") ∈ wsX7_undo := List.mem_of_getElem? (i := 3) (by decide +kernel)
theorem inX7_undo_X7 : ∀ w ∈ wsX70, w ∈ wsX7_undo := by decide +kernel
theorem hp_X7_undo : yX7_undo.cls ≠ "java/lang/invoke/MethodHandle" ∧ yX7_undo.cls ≠ "java/lang/invoke/VarHandle" ∧ (parseMethodDescriptor yX7_undo.desc).map (fun d => d.parameters.length) = some 0 := by decide +kernel
theorem hv_X7_undo : yX7_undo.cls = RX7 ∧ yX7_undo.cls ≠ "java/lang/invoke/MethodHandle" ∧ yX7_undo.cls ≠ "java/lang/invoke/VarHandle" ∧ (parseMethodDescriptor yX7_undo.desc).map (fun d => d.parameters.length) = some 0 := by decide +kernel
set_option maxHeartbeats 4000000 in
set_option maxRecDepth 100000 in
theorem c_X7_undo (l : Launch) (dC : Nat → ClassId) (dI : Nat → Nat → Nat) (cI cC cT : ClassId) (h0 h1 h2 h3 h4 h5 h6 h7 : Nat) (sz : Nat) (v_state : (Nat → Int32)) (v_history : (Nat → Int32)) (v_recorded : Int32) (v_padLength : Int32) (v_at : Int32) (v_letter : Int32) (v_hasUnder : Int32) (v_numbersMany : Int32) (r : (Int32 × (Nat → Int32) × Int32)) (hd : den_X7_undo v_state v_history v_recorded = some r) : Met l yX7_undo wsX7_undo rmX7_undo (va_Pc [.ref h0] (preB sz (dC, dI) [(h0, .inr (7, [.ref h1, .ref h2, .int v_recorded, .ref h3, .ref h4, .ref h5, .int v_padLength, .ref h6, .int v_at, .int v_letter, .int v_hasUnder, .ref h7, .int v_numbersMany])), (h1, .inl (cI, 2628, .inl v_state)), (h2, .inl (cI, 15768, .inl v_history))] [(cI, .int), (cC, .char), (cT, .object "CassetteTones$Tape")])) (va_Qi (S := Unit) (fun v _ => v = r.1) (fun _ t => posB (dC, dI) [(h0, .inr (7, [.ref h1, .ref h2, .int r.2.2, .ref h3, .ref h4, .ref h5, .int v_padLength, .ref h6, .int v_at, .int v_letter, .int v_hasUnder, .ref h7, .int v_numbersMany])), (h1, .inl (cI, 2628, .inl r.2.1)), (h2, .inl (cI, 15768, .inl v_history))] [(cI, .int), (cC, .char), (cT, .object "CassetteTones$Tape")] (va_A [(h0, .inr (7, [.ref h1, .ref h2, .int v_recorded, .ref h3, .ref h4, .ref h5, .int v_padLength, .ref h6, .int v_at, .int v_letter, .int v_hasUnder, .ref h7, .int v_numbersMany])), (h1, .inl (cI, 2628, .inl v_state)), (h2, .inl (cI, 15768, .inl v_history))] sz) t) (va_A [(h0, .inr (7, [.ref h1, .ref h2, .int v_recorded, .ref h3, .ref h4, .ref h5, .int v_padLength, .ref h6, .int v_at, .int v_letter, .int v_hasUnder, .ref h7, .int v_numbersMany])), (h1, .inl (cI, 2628, .inl v_state)), (h2, .inl (cI, 15768, .inl v_history))] sz)) 0 0 (va_A [(h0, .inr (7, [.ref h1, .ref h2, .int v_recorded, .ref h3, .ref h4, .ref h5, .int v_padLength, .ref h6, .int v_at, .int v_letter, .int v_hasUnder, .ref h7, .int v_numbersMany])), (h1, .inl (cI, 2628, .inl v_state)), (h2, .inl (cI, 15768, .inl v_history))] sz) := by
  refine x_met_i (by decide) rfl (Nat.le_of_ble_eq_true rfl) ?_
  intro p e s m args below meth c A Q H locs ls hx hb hml hown hts hK hN hA hP hD hS hl hend
  have hown : s.vm.findClass RX7 = some m.cls := hown
  have hl : lv_has ls 1 [(0, .ref h0)] := hl
  unfold den_X7_undo at hd
  refine lv_aload_n hx hb dX7_undo_0 rfl (lv_at hl 0 rfl) ?_
  refine va_get (D := (dC, dI)) (ci := 7) (v := .int v_recorded) (C := RX7) (T := TX7) (N := 13) hx hb hts inX7_undo_X7 hown hK hP 0 rfl rfl 2 (by decide) (hts _ kX7_undo_1) (fun _ h9 => h9) rfl dX7_undo_1 ?_
  refine lv_if_ne (tgt := 10) hx hb dX7_undo_4 (by decide) (fun c1 => ?_) (fun c1 => ?_)
  · replace hd := ite_f c1 hd
    refine lv_aload_n hx hb dX7_undo_10 rfl (lv_at hl 0 rfl) ?_
    refine lv_dup hx hb dX7_undo_11 rfl ?_
    refine va_get (D := (dC, dI)) (ci := 7) (v := .int v_recorded) (C := RX7) (T := TX7) (N := 13) hx hb hts inX7_undo_X7 hown hK hP 0 rfl rfl 2 (by decide) (hts _ kX7_undo_1) (fun _ h9 => h9) rfl dX7_undo_12 ?_
    refine lv_iconst (v := 1) hx hb dX7_undo_15 (by decide) ?_
    refine lv_isub hx hb dX7_undo_16 ?_
    refine va_put (D := (dC, dI)) (ci := 7) (v := .int (v_recorded - (1 : Int32))) (ty := .int) (C := RX7) (T := TX7) (N := 13) hx hb hts inX7_undo_X7 tyX7 tyX7_ok nmX7 hown hK hP hD hS 0 rfl rfl 2 (by decide) (hts _ kX7_undo_1) (fun _ h9 => h9) rfl (by decide +kernel) rfl rfl (Nat.le_of_ble_eq_true rfl) dX7_undo_17 (fun H locs hP hD hS => ?_)
    have hP : va_P (dC, dI) vwCl [(h0, .inr (7, [.ref h1, .ref h2, .int (v_recorded - (1 : Int32)), .ref h3, .ref h4, .ref h5, .int v_padLength, .ref h6, .int v_at, .int v_letter, .int v_hasUnder, .ref h7, .int v_numbersMany])), (h1, .inl (cI, 2628, .inl v_state)), (h2, .inl (cI, 15768, .inl v_history))] H := hP
    have hD : va_D A [(h0, .inr (7, [.ref h1, .ref h2, .int (v_recorded - (1 : Int32)), .ref h3, .ref h4, .ref h5, .int v_padLength, .ref h6, .int v_at, .int v_letter, .int v_hasUnder, .ref h7, .int v_numbersMany])), (h1, .inl (cI, 2628, .inl v_state)), (h2, .inl (cI, 15768, .inl v_history))] := hD
    refine lv_aload_n hx hb dX7_undo_20 rfl (lv_at hl 0 rfl) ?_
    refine va_get (D := (dC, dI)) (ci := 7) (v := .ref h2) (C := RX7) (T := TX7) (N := 13) hx hb hts inX7_undo_X7 hown hK hP 0 rfl rfl 1 (by decide) (hts _ kX7_undo_2) (fun _ h9 => h9) rfl dX7_undo_21 ?_
    refine lv_aload_n hx hb dX7_undo_24 rfl (lv_at hl 0 rfl) ?_
    refine va_get (D := (dC, dI)) (ci := 7) (v := .int (v_recorded - (1 : Int32))) (C := RX7) (T := TX7) (N := 13) hx hb hts inX7_undo_X7 hown hK hP 0 rfl rfl 2 (by decide) (hts _ kX7_undo_1) (fun _ h9 => h9) rfl dX7_undo_25 ?_
    refine lv_sipush (v := 2628) hx hb dX7_undo_28 (by decide) ?_
    refine lv_imul hx hb dX7_undo_31 ?_
    refine lv_aload_n hx hb dX7_undo_32 rfl (lv_at hl 0 rfl) ?_
    refine va_get (D := (dC, dI)) (ci := 7) (v := .ref h1) (C := RX7) (T := TX7) (N := 13) hx hb hts inX7_undo_X7 hown hK hP 0 rfl rfl 0 (by decide) (hts _ kX7_undo_3) (fun _ h9 => h9) rfl dX7_undo_33 ?_
    refine lv_iconst (v := 0) hx hb dX7_undo_36 (by decide) ?_
    obtain ⟨q2, hq2, hd⟩ := bnd_some hd
    have hPc : va_P (dC, dI) vwCl [(h2, .inl (cI, 15768, .inl v_history)), (h1, .inl (cI, 2628, .inl v_state))] _ := hP.sub [2, 1] rfl
    have hDc := hD.sub (ws' := [(h2, .inl (cI, 15768, .inl v_history)), (h1, .inl (cI, 2628, .inl v_state))]) [2, 1] (by decide) rfl
    have hFc := va_free (wc := [(h2, .inl (cI, 15768, .inl v_history)), (h1, .inl (cI, 2628, .inl v_state))]) hD hS hA [2, 1] rfl
    refine va_callv (va_runS (As := [.ref h2, .int ((v_recorded - (1 : Int32)) * (2628 : Int32)), .ref h1, .int (0 : Int32)]) (rest := []) ⟨hx, hb, hml, hown, hts⟩ (c_X7_moves l dC dI cI cC cT h2 h1 15768 2628 H.size v_history v_state ((v_recorded - (1 : Int32)) * (2628 : Int32)) (0 : Int32) q2 hq2) (va_cwS 4 hts gX7_undo_X7_moves rfl rfl rfl hp_X7_moves ⟨Nat.le_of_ble_eq_true rfl, Nat.le_of_ble_eq_true rfl⟩) ⟨preB_fb, fun U hU hW => preB_mk hU hW hPc hK hDc hN⟩ rfl rfl hl.1 rfl (lv_room (Nat.le_of_ble_eq_true rfl)) dX7_undo_37 ⟨Nat.zero_le _, Nat.zero_le _⟩) hS (fun q _ h => hFc q h) hFc (fun u_ t H locs ht hvm hw hB hz1 hk1 hS => ?_)
    obtain ⟨hP, hD⟩ := x_join (ws' := [(h0, .inr (7, [.ref h1, .ref h2, .int (v_recorded - (1 : Int32)), .ref h3, .ref h4, .ref h5, .int v_padLength, .ref h6, .int v_at, .int v_letter, .int v_hasUnder, .ref h7, .int v_numbersMany])), (h1, .inl (cI, 2628, .inl q2)), (h2, .inl (cI, 15768, .inl v_history))]) hP hD [2, 1] [0] rfl rfl (by decide) (by decide) hk1 hFc ht hB [0, 2, 1] (by decide) rfl
    clear hPc hDc hFc hk1 hB ht hz1 hvm
    refine lv_aload_n hx hb dX7_undo_40 rfl (lv_at hl 0 rfl) ?_
    refine va_get (D := (dC, dI)) (ci := 7) (v := .int (v_recorded - (1 : Int32))) (C := RX7) (T := TX7) (N := 13) hx hb hts inX7_undo_X7 hown hK hP 0 rfl rfl 2 (by decide) (hts _ kX7_undo_1) (fun _ h9 => h9) rfl dX7_undo_41 ?_
    cases hd
    exact hend (by rfl) hP hD hS dX7_undo_44
  · replace hd := ite_t c1 hd
    refine lv_bipush (v := -5) hx hb dX7_undo_7 (by decide) ?_
    cases hd
    exact hend (by rfl) hP hD hS dX7_undo_9
def rmX7_save : Room := { frames := 1, cells := 0, slots := 0, locals := 24 }
theorem kX7_save_1 : (Cond.fieldLink RX7 7 "CassetteTonesModel" "state" "[I") ∈ wsX7_save := List.mem_of_getElem? (i := 1) (by decide +kernel)
theorem kX7_save_2 : (Cond.fieldLink RX7 16 "CassetteTonesModel" "slots" "[I") ∈ wsX7_save := List.mem_of_getElem? (i := 2) (by decide +kernel)
theorem kX7_save_3 : (Cond.fieldLink RX7 19 "CassetteTonesModel" "isSaved" "[I") ∈ wsX7_save := List.mem_of_getElem? (i := 3) (by decide +kernel)
theorem inX7_save_X7 : ∀ w ∈ wsX70, w ∈ wsX7_save := by decide +kernel
theorem hp_X7_save : yX7_save.cls ≠ "java/lang/invoke/MethodHandle" ∧ yX7_save.cls ≠ "java/lang/invoke/VarHandle" ∧ (parseMethodDescriptor yX7_save.desc).map (fun d => d.parameters.length) = some 1 := by decide +kernel
theorem hv_X7_save : yX7_save.cls = RX7 ∧ yX7_save.cls ≠ "java/lang/invoke/MethodHandle" ∧ yX7_save.cls ≠ "java/lang/invoke/VarHandle" ∧ (parseMethodDescriptor yX7_save.desc).map (fun d => d.parameters.length) = some 1 := by decide +kernel
set_option maxHeartbeats 4000000 in
set_option maxRecDepth 100000 in
theorem c_X7_save (l : Launch) (dC : Nat → ClassId) (dI : Nat → Nat → Nat) (cI cC cT : ClassId) (h0 h1 h2 h3 h4 h5 h6 h7 : Nat) (sz : Nat) (v_state : (Nat → Int32)) (v_recorded : Int32) (v_slots : (Nat → Int32)) (v_isSaved : (Nat → Int32)) (v_padLength : Int32) (v_at : Int32) (v_letter : Int32) (v_hasUnder : Int32) (v_numbersMany : Int32) (p1 : Int32) (r : (Int32 × (Nat → Int32) × (Nat → Int32))) (hd : den_X7_save v_state v_slots v_isSaved p1 = some r) : Met l yX7_save wsX7_save rmX7_save (va_Pc [.ref h0, .int p1] (preB sz (dC, dI) [(h0, .inr (7, [.ref h1, .ref h2, .int v_recorded, .ref h3, .ref h4, .ref h5, .int v_padLength, .ref h6, .int v_at, .int v_letter, .int v_hasUnder, .ref h7, .int v_numbersMany])), (h1, .inl (cI, 2628, .inl v_state)), (h3, .inl (cI, 5256, .inl v_slots)), (h4, .inl (cI, 2, .inl v_isSaved))] [(cI, .int), (cC, .char), (cT, .object "CassetteTones$Tape")])) (va_Qi (S := Unit) (fun v _ => v = r.1) (fun _ t => posB (dC, dI) [(h0, .inr (7, [.ref h1, .ref h2, .int v_recorded, .ref h3, .ref h4, .ref h5, .int v_padLength, .ref h6, .int v_at, .int v_letter, .int v_hasUnder, .ref h7, .int v_numbersMany])), (h1, .inl (cI, 2628, .inl v_state)), (h3, .inl (cI, 5256, .inl r.2.1)), (h4, .inl (cI, 2, .inl r.2.2))] [(cI, .int), (cC, .char), (cT, .object "CassetteTones$Tape")] (va_A [(h0, .inr (7, [.ref h1, .ref h2, .int v_recorded, .ref h3, .ref h4, .ref h5, .int v_padLength, .ref h6, .int v_at, .int v_letter, .int v_hasUnder, .ref h7, .int v_numbersMany])), (h1, .inl (cI, 2628, .inl v_state)), (h3, .inl (cI, 5256, .inl v_slots)), (h4, .inl (cI, 2, .inl v_isSaved))] sz) t) (va_A [(h0, .inr (7, [.ref h1, .ref h2, .int v_recorded, .ref h3, .ref h4, .ref h5, .int v_padLength, .ref h6, .int v_at, .int v_letter, .int v_hasUnder, .ref h7, .int v_numbersMany])), (h1, .inl (cI, 2628, .inl v_state)), (h3, .inl (cI, 5256, .inl v_slots)), (h4, .inl (cI, 2, .inl v_isSaved))] sz)) 0 0 (va_A [(h0, .inr (7, [.ref h1, .ref h2, .int v_recorded, .ref h3, .ref h4, .ref h5, .int v_padLength, .ref h6, .int v_at, .int v_letter, .int v_hasUnder, .ref h7, .int v_numbersMany])), (h1, .inl (cI, 2628, .inl v_state)), (h3, .inl (cI, 5256, .inl v_slots)), (h4, .inl (cI, 2, .inl v_isSaved))] sz) := by
  refine x_met_i (by decide) rfl (Nat.le_of_ble_eq_true rfl) ?_
  intro p e s m args below meth c A Q H locs ls hx hb hml hown hts hK hN hA hP hD hS hl hend
  have hown : s.vm.findClass RX7 = some m.cls := hown
  have hl : lv_has ls 2 [(0, .ref h0), (1, .int p1)] := hl
  unfold den_X7_save at hd
  refine lv_iload_n hx hb dX7_save_0 rfl (lv_at hl 1 rfl) ?_
  refine lv_iconst (v := 0) hx hb dX7_save_1 (by decide) ?_
  refine lv_iconst (v := 1) hx hb dX7_save_2 (by decide) ?_
  obtain ⟨q1, hq1, hd⟩ := bnd_some hd
  have hPc : va_P (dC, dI) vwCl [] _ := hP.sub [] rfl
  have hDc := hD.sub (ws' := []) [] (by decide) rfl
  have hFc := va_free (wc := []) hD hS hA [] rfl
  refine va_calli (va_runS (As := [.int p1, .int (0 : Int32), .int (1 : Int32)]) (rest := []) ⟨hx, hb, hml, hown, hts⟩ (c_X7_within l dC dI cI cC cT H.size p1 (0 : Int32) (1 : Int32) q1 hq1) (va_cwS 3 hts gX7_save_X7_within rfl rfl rfl hp_X7_within ⟨Nat.le_of_ble_eq_true rfl, Nat.le_of_ble_eq_true rfl⟩) ⟨preB_fb, fun U hU hW => preB_mk hU hW hPc hK hDc hN⟩ rfl rfl hl.1 rfl (lv_room (Nat.le_of_ble_eq_true rfl)) dX7_save_3 ⟨Nat.zero_le _, Nat.zero_le _⟩) hS (fun q _ h => hFc q h) hFc (fun r_ u_ t H locs ht hvm hw hB hz1 hk1 hS => ?_)
  have hw : r_ = q1 := hw
  have hw := hw.symm
  subst hw
  obtain ⟨hP, hD⟩ := x_join (ws' := [(h0, .inr (7, [.ref h1, .ref h2, .int v_recorded, .ref h3, .ref h4, .ref h5, .int v_padLength, .ref h6, .int v_at, .int v_letter, .int v_hasUnder, .ref h7, .int v_numbersMany])), (h1, .inl (cI, 2628, .inl v_state)), (h3, .inl (cI, 5256, .inl v_slots)), (h4, .inl (cI, 2, .inl v_isSaved))]) hP hD [] [0, 1, 2, 3] rfl rfl (by decide) (by decide) hk1 hFc ht hB [0, 1, 2, 3] (by decide) rfl
  clear hPc hDc hFc hk1 hB ht hz1 hvm
  refine lv_if_ne (tgt := 12) hx hb dX7_save_6 (by decide) (fun c2 => ?_) (fun c2 => ?_)
  · replace hd := ite_f c2 hd
    refine lv_aload_n hx hb dX7_save_12 rfl (lv_at hl 0 rfl) ?_
    refine va_get (D := (dC, dI)) (ci := 7) (v := .ref h1) (C := RX7) (T := TX7) (N := 13) hx hb hts inX7_save_X7 hown hK hP 0 rfl rfl 0 (by decide) (hts _ kX7_save_1) (fun _ h9 => h9) rfl dX7_save_13 ?_
    refine lv_iconst (v := 0) hx hb dX7_save_16 (by decide) ?_
    refine lv_aload_n hx hb dX7_save_17 rfl (lv_at hl 0 rfl) ?_
    refine va_get (D := (dC, dI)) (ci := 7) (v := .ref h3) (C := RX7) (T := TX7) (N := 13) hx hb hts inX7_save_X7 hown hK hP 0 rfl rfl 3 (by decide) (hts _ kX7_save_2) (fun _ h9 => h9) rfl dX7_save_18 ?_
    refine lv_sipush (v := 2628) hx hb dX7_save_21 (by decide) ?_
    refine lv_iload_n hx hb dX7_save_24 rfl (lv_at hl 1 rfl) ?_
    refine lv_imul hx hb dX7_save_25 ?_
    obtain ⟨q3, hq3, hd⟩ := bnd_some hd
    have hPc : va_P (dC, dI) vwCl [(h1, .inl (cI, 2628, .inl v_state)), (h3, .inl (cI, 5256, .inl v_slots))] _ := hP.sub [1, 2] rfl
    have hDc := hD.sub (ws' := [(h1, .inl (cI, 2628, .inl v_state)), (h3, .inl (cI, 5256, .inl v_slots))]) [1, 2] (by decide) rfl
    have hFc := va_free (wc := [(h1, .inl (cI, 2628, .inl v_state)), (h3, .inl (cI, 5256, .inl v_slots))]) hD hS hA [1, 2] rfl
    refine va_callv (va_runS (As := [.ref h1, .int (0 : Int32), .ref h3, .int ((2628 : Int32) * p1)]) (rest := []) ⟨hx, hb, hml, hown, hts⟩ (c_X7_moves l dC dI cI cC cT h1 h3 2628 5256 H.size v_state v_slots (0 : Int32) ((2628 : Int32) * p1) q3 hq3) (va_cwS 4 hts gX7_save_X7_moves rfl rfl rfl hp_X7_moves ⟨Nat.le_of_ble_eq_true rfl, Nat.le_of_ble_eq_true rfl⟩) ⟨preB_fb, fun U hU hW => preB_mk hU hW hPc hK hDc hN⟩ rfl rfl hl.1 rfl (lv_room (Nat.le_of_ble_eq_true rfl)) dX7_save_26 ⟨Nat.zero_le _, Nat.zero_le _⟩) hS (fun q _ h => hFc q h) hFc (fun u_ t H locs ht hvm hw hB hz1 hk1 hS => ?_)
    obtain ⟨hP, hD⟩ := x_join (ws' := [(h0, .inr (7, [.ref h1, .ref h2, .int v_recorded, .ref h3, .ref h4, .ref h5, .int v_padLength, .ref h6, .int v_at, .int v_letter, .int v_hasUnder, .ref h7, .int v_numbersMany])), (h1, .inl (cI, 2628, .inl v_state)), (h3, .inl (cI, 5256, .inl q3)), (h4, .inl (cI, 2, .inl v_isSaved))]) hP hD [1, 2] [0, 3] rfl rfl (by decide) (by decide) hk1 hFc ht hB [0, 2, 3, 1] (by decide) rfl
    clear hPc hDc hFc hk1 hB ht hz1 hvm
    refine lv_aload_n hx hb dX7_save_29 rfl (lv_at hl 0 rfl) ?_
    refine va_get (D := (dC, dI)) (ci := 7) (v := .ref h4) (C := RX7) (T := TX7) (N := 13) hx hb hts inX7_save_X7 hown hK hP 0 rfl rfl 4 (by decide) (hts _ kX7_save_3) (fun _ h9 => h9) rfl dX7_save_30 ?_
    refine lv_iload_n hx hb dX7_save_33 rfl (lv_at hl 1 rfl) ?_
    refine lv_iconst (v := 1) hx hb dX7_save_34 (by decide) ?_
    obtain ⟨g4, hd⟩ := gd_some hd
    refine x_iast (k := p1.toNatClampNeg) hx hb hK hP hD hS 3 0 rfl rfl (inb_in g4) rfl dX7_save_35 (fun H locs hP hD hS => ?_)
    have hP : va_P (dC, dI) vwCl [(h0, .inr (7, [.ref h1, .ref h2, .int v_recorded, .ref h3, .ref h4, .ref h5, .int v_padLength, .ref h6, .int v_at, .int v_letter, .int v_hasUnder, .ref h7, .int v_numbersMany])), (h1, .inl (cI, 2628, .inl v_state)), (h3, .inl (cI, 5256, .inl q3)), (h4, .inl (cI, 2, .inl (upd v_isSaved p1.toNatClampNeg (1 : Int32))))] H := hP
    have hD : va_D A [(h0, .inr (7, [.ref h1, .ref h2, .int v_recorded, .ref h3, .ref h4, .ref h5, .int v_padLength, .ref h6, .int v_at, .int v_letter, .int v_hasUnder, .ref h7, .int v_numbersMany])), (h1, .inl (cI, 2628, .inl v_state)), (h3, .inl (cI, 5256, .inl q3)), (h4, .inl (cI, 2, .inl (upd v_isSaved p1.toNatClampNeg (1 : Int32))))] := hD
    refine lv_aload_n hx hb dX7_save_36 rfl (lv_at hl 0 rfl) ?_
    refine va_get (D := (dC, dI)) (ci := 7) (v := .ref h1) (C := RX7) (T := TX7) (N := 13) hx hb hts inX7_save_X7 hown hK hP 0 rfl rfl 0 (by decide) (hts _ kX7_save_1) (fun _ h9 => h9) rfl dX7_save_37 ?_
    refine lv_iconst (v := 3) hx hb dX7_save_40 (by decide) ?_
    refine x_iald (k := 3) hx hb hK hP 1 0 rfl rfl (inb_in (by decide)) rfl dX7_save_41 ?_
    cases hd
    exact hend (by rfl) hP hD hS dX7_save_42
  · replace hd := ite_t c2 hd
    refine lv_bipush (v := -2) hx hb dX7_save_9 (by decide) ?_
    cases hd
    exact hend (by rfl) hP hD hS dX7_save_11
def rmX7_restore : Room := { frames := 2, cells := 0, slots := 0, locals := 45 }
theorem kX7_restore_1 : (Cond.fieldLink RX7 19 "CassetteTonesModel" "isSaved" "[I") ∈ wsX7_restore := List.mem_of_getElem? (i := 1) (by decide +kernel)
theorem kX7_restore_2 : (Cond.fieldLink RX7 16 "CassetteTonesModel" "slots" "[I") ∈ wsX7_restore := List.mem_of_getElem? (i := 2) (by decide +kernel)
theorem kX7_restore_3 : (Cond.fieldLink RX7 7 "CassetteTonesModel" "state" "[I") ∈ wsX7_restore := List.mem_of_getElem? (i := 3) (by decide +kernel)
theorem inX7_restore_X7 : ∀ w ∈ wsX70, w ∈ wsX7_restore := by decide +kernel
theorem hp_X7_restore : yX7_restore.cls ≠ "java/lang/invoke/MethodHandle" ∧ yX7_restore.cls ≠ "java/lang/invoke/VarHandle" ∧ (parseMethodDescriptor yX7_restore.desc).map (fun d => d.parameters.length) = some 1 := by decide +kernel
theorem hv_X7_restore : yX7_restore.cls = RX7 ∧ yX7_restore.cls ≠ "java/lang/invoke/MethodHandle" ∧ yX7_restore.cls ≠ "java/lang/invoke/VarHandle" ∧ (parseMethodDescriptor yX7_restore.desc).map (fun d => d.parameters.length) = some 1 := by decide +kernel
set_option maxHeartbeats 4000000 in
set_option maxRecDepth 100000 in
theorem c_X7_restore (l : Launch) (dC : Nat → ClassId) (dI : Nat → Nat → Nat) (cI cC cT : ClassId) (h0 h1 h2 h3 h4 h5 h6 h7 : Nat) (sz : Nat) (v_state : (Nat → Int32)) (v_history : (Nat → Int32)) (v_recorded : Int32) (v_slots : (Nat → Int32)) (v_isSaved : (Nat → Int32)) (v_padLength : Int32) (v_at : Int32) (v_letter : Int32) (v_hasUnder : Int32) (v_numbersMany : Int32) (p1 : Int32) (r : (Int32 × (Nat → Int32) × (Nat → Int32) × Int32)) (hd : den_X7_restore v_state v_history v_recorded v_slots v_isSaved p1 = some r) : Met l yX7_restore wsX7_restore rmX7_restore (va_Pc [.ref h0, .int p1] (preB sz (dC, dI) [(h0, .inr (7, [.ref h1, .ref h2, .int v_recorded, .ref h3, .ref h4, .ref h5, .int v_padLength, .ref h6, .int v_at, .int v_letter, .int v_hasUnder, .ref h7, .int v_numbersMany])), (h1, .inl (cI, 2628, .inl v_state)), (h2, .inl (cI, 15768, .inl v_history)), (h3, .inl (cI, 5256, .inl v_slots)), (h4, .inl (cI, 2, .inl v_isSaved))] [(cI, .int), (cC, .char), (cT, .object "CassetteTones$Tape")])) (va_Qi (S := Unit) (fun v _ => v = r.1) (fun _ t => posB (dC, dI) [(h0, .inr (7, [.ref h1, .ref h2, .int r.2.2.2, .ref h3, .ref h4, .ref h5, .int v_padLength, .ref h6, .int v_at, .int v_letter, .int v_hasUnder, .ref h7, .int v_numbersMany])), (h1, .inl (cI, 2628, .inl r.2.1)), (h2, .inl (cI, 15768, .inl r.2.2.1)), (h3, .inl (cI, 5256, .inl v_slots)), (h4, .inl (cI, 2, .inl v_isSaved))] [(cI, .int), (cC, .char), (cT, .object "CassetteTones$Tape")] (va_A [(h0, .inr (7, [.ref h1, .ref h2, .int v_recorded, .ref h3, .ref h4, .ref h5, .int v_padLength, .ref h6, .int v_at, .int v_letter, .int v_hasUnder, .ref h7, .int v_numbersMany])), (h1, .inl (cI, 2628, .inl v_state)), (h2, .inl (cI, 15768, .inl v_history)), (h3, .inl (cI, 5256, .inl v_slots)), (h4, .inl (cI, 2, .inl v_isSaved))] sz) t) (va_A [(h0, .inr (7, [.ref h1, .ref h2, .int v_recorded, .ref h3, .ref h4, .ref h5, .int v_padLength, .ref h6, .int v_at, .int v_letter, .int v_hasUnder, .ref h7, .int v_numbersMany])), (h1, .inl (cI, 2628, .inl v_state)), (h2, .inl (cI, 15768, .inl v_history)), (h3, .inl (cI, 5256, .inl v_slots)), (h4, .inl (cI, 2, .inl v_isSaved))] sz)) 0 0 (va_A [(h0, .inr (7, [.ref h1, .ref h2, .int v_recorded, .ref h3, .ref h4, .ref h5, .int v_padLength, .ref h6, .int v_at, .int v_letter, .int v_hasUnder, .ref h7, .int v_numbersMany])), (h1, .inl (cI, 2628, .inl v_state)), (h2, .inl (cI, 15768, .inl v_history)), (h3, .inl (cI, 5256, .inl v_slots)), (h4, .inl (cI, 2, .inl v_isSaved))] sz) := by
  refine x_met_i (by decide) rfl (Nat.le_of_ble_eq_true rfl) ?_
  intro p e s m args below meth c A Q H locs ls hx hb hml hown hts hK hN hA hP hD hS hl hend
  have hown : s.vm.findClass RX7 = some m.cls := hown
  have hl : lv_has ls 2 [(0, .ref h0), (1, .int p1)] := hl
  unfold den_X7_restore at hd
  refine lv_iload_n hx hb dX7_restore_0 rfl (lv_at hl 1 rfl) ?_
  refine lv_iconst (v := 0) hx hb dX7_restore_1 (by decide) ?_
  refine lv_iconst (v := 1) hx hb dX7_restore_2 (by decide) ?_
  obtain ⟨q1, hq1, hd⟩ := bnd_some hd
  have hPc : va_P (dC, dI) vwCl [] _ := hP.sub [] rfl
  have hDc := hD.sub (ws' := []) [] (by decide) rfl
  have hFc := va_free (wc := []) hD hS hA [] rfl
  refine va_calli (va_runS (As := [.int p1, .int (0 : Int32), .int (1 : Int32)]) (rest := []) ⟨hx, hb, hml, hown, hts⟩ (c_X7_within l dC dI cI cC cT H.size p1 (0 : Int32) (1 : Int32) q1 hq1) (va_cwS 3 hts gX7_restore_X7_within rfl rfl rfl hp_X7_within ⟨Nat.le_of_ble_eq_true rfl, Nat.le_of_ble_eq_true rfl⟩) ⟨preB_fb, fun U hU hW => preB_mk hU hW hPc hK hDc hN⟩ rfl rfl hl.1 rfl (lv_room (Nat.le_of_ble_eq_true rfl)) dX7_restore_3 ⟨Nat.zero_le _, Nat.zero_le _⟩) hS (fun q _ h => hFc q h) hFc (fun r_ u_ t H locs ht hvm hw hB hz1 hk1 hS => ?_)
  have hw : r_ = q1 := hw
  have hw := hw.symm
  subst hw
  obtain ⟨hP, hD⟩ := x_join (ws' := [(h0, .inr (7, [.ref h1, .ref h2, .int v_recorded, .ref h3, .ref h4, .ref h5, .int v_padLength, .ref h6, .int v_at, .int v_letter, .int v_hasUnder, .ref h7, .int v_numbersMany])), (h1, .inl (cI, 2628, .inl v_state)), (h2, .inl (cI, 15768, .inl v_history)), (h3, .inl (cI, 5256, .inl v_slots)), (h4, .inl (cI, 2, .inl v_isSaved))]) hP hD [] [0, 1, 2, 3, 4] rfl rfl (by decide) (by decide) hk1 hFc ht hB [0, 1, 2, 3, 4] (by decide) rfl
  clear hPc hDc hFc hk1 hB ht hz1 hvm
  refine lv_if_ne (tgt := 12) hx hb dX7_restore_6 (by decide) (fun c2 => ?_) (fun c2 => ?_)
  · replace hd := ite_f c2 hd
    refine lv_aload_n hx hb dX7_restore_12 rfl (lv_at hl 0 rfl) ?_
    refine va_get (D := (dC, dI)) (ci := 7) (v := .ref h4) (C := RX7) (T := TX7) (N := 13) hx hb hts inX7_restore_X7 hown hK hP 0 rfl rfl 4 (by decide) (hts _ kX7_restore_1) (fun _ h9 => h9) rfl dX7_restore_13 ?_
    refine lv_iload_n hx hb dX7_restore_16 rfl (lv_at hl 1 rfl) ?_
    obtain ⟨g3, hd⟩ := gd_some hd
    refine x_iald (k := p1.toNatClampNeg) hx hb hK hP 4 0 rfl rfl (inb_in g3) rfl dX7_restore_17 ?_
    refine lv_if_ne (tgt := 24) hx hb dX7_restore_18 (by decide) (fun c4 => ?_) (fun c4 => ?_)
    · replace hd := ite_f c4 hd
      refine lv_aload_n hx hb dX7_restore_24 rfl (lv_at hl 0 rfl) ?_
      obtain ⟨q5, hq5, hd⟩ := bnd_some hd
      have hPc : va_P (dC, dI) vwCl [(h0, .inr (7, [.ref h1, .ref h2, .int v_recorded, .ref h3, .ref h4, .ref h5, .int v_padLength, .ref h6, .int v_at, .int v_letter, .int v_hasUnder, .ref h7, .int v_numbersMany])), (h1, .inl (cI, 2628, .inl v_state)), (h2, .inl (cI, 15768, .inl v_history))] _ := hP.sub [0, 1, 2] rfl
      have hDc := hD.sub (ws' := [(h0, .inr (7, [.ref h1, .ref h2, .int v_recorded, .ref h3, .ref h4, .ref h5, .int v_padLength, .ref h6, .int v_at, .int v_letter, .int v_hasUnder, .ref h7, .int v_numbersMany])), (h1, .inl (cI, 2628, .inl v_state)), (h2, .inl (cI, 15768, .inl v_history))]) [0, 1, 2] (by decide) rfl
      have hFc := va_free (wc := [(h0, .inr (7, [.ref h1, .ref h2, .int v_recorded, .ref h3, .ref h4, .ref h5, .int v_padLength, .ref h6, .int v_at, .int v_letter, .int v_hasUnder, .ref h7, .int v_numbersMany])), (h1, .inl (cI, 2628, .inl v_state)), (h2, .inl (cI, 15768, .inl v_history))]) hD hS hA [0, 1, 2] rfl
      refine va_callv (va_runV (As := []) (rest := []) ⟨hx, hb, hml, hown, hts⟩ (c_X7_record l dC dI cI cC cT h0 h1 h2 h3 h4 h5 h6 h7 H.size v_state v_history v_recorded v_padLength v_at v_letter v_hasUnder v_numbersMany q5 hq5) (cwV 0 hts gX7_restore_X7_record rfl rfl rfl hv_X7_record ⟨Nat.le_of_ble_eq_true rfl, Nat.le_of_ble_eq_true rfl⟩) ⟨preB_fb, va_recv hK hPc (ci := 7) (q0 := 0) rfl rfl, fun U hU hW => preB_mk hU hW hPc hK hDc hN⟩ rfl rfl hl.1 rfl (lv_room (Nat.le_of_ble_eq_true rfl)) dX7_restore_25 ⟨Nat.zero_le _, Nat.zero_le _⟩) hS (fun q _ h => hFc q h) hFc (fun u_ t H locs ht hvm hw hB hz1 hk1 hS => ?_)
      obtain ⟨hP, hD⟩ := x_join (ws' := [(h0, .inr (7, [.ref h1, .ref h2, .int q5.2, .ref h3, .ref h4, .ref h5, .int v_padLength, .ref h6, .int v_at, .int v_letter, .int v_hasUnder, .ref h7, .int v_numbersMany])), (h1, .inl (cI, 2628, .inl v_state)), (h2, .inl (cI, 15768, .inl q5.1)), (h3, .inl (cI, 5256, .inl v_slots)), (h4, .inl (cI, 2, .inl v_isSaved))]) hP hD [0, 1, 2] [3, 4] rfl rfl (by decide) (by decide) hk1 hFc ht hB [2, 3, 4, 0, 1] (by decide) rfl
      clear hPc hDc hFc hk1 hB ht hz1 hvm
      refine lv_aload_n hx hb dX7_restore_28 rfl (lv_at hl 0 rfl) ?_
      refine va_get (D := (dC, dI)) (ci := 7) (v := .ref h3) (C := RX7) (T := TX7) (N := 13) hx hb hts inX7_restore_X7 hown hK hP 0 rfl rfl 3 (by decide) (hts _ kX7_restore_2) (fun _ h9 => h9) rfl dX7_restore_29 ?_
      refine lv_sipush (v := 2628) hx hb dX7_restore_32 (by decide) ?_
      refine lv_iload_n hx hb dX7_restore_35 rfl (lv_at hl 1 rfl) ?_
      refine lv_imul hx hb dX7_restore_36 ?_
      refine lv_aload_n hx hb dX7_restore_37 rfl (lv_at hl 0 rfl) ?_
      refine va_get (D := (dC, dI)) (ci := 7) (v := .ref h1) (C := RX7) (T := TX7) (N := 13) hx hb hts inX7_restore_X7 hown hK hP 0 rfl rfl 0 (by decide) (hts _ kX7_restore_3) (fun _ h9 => h9) rfl dX7_restore_38 ?_
      refine lv_iconst (v := 0) hx hb dX7_restore_41 (by decide) ?_
      obtain ⟨q6, hq6, hd⟩ := bnd_some hd
      have hPc : va_P (dC, dI) vwCl [(h3, .inl (cI, 5256, .inl v_slots)), (h1, .inl (cI, 2628, .inl v_state))] _ := hP.sub [3, 1] rfl
      have hDc := hD.sub (ws' := [(h3, .inl (cI, 5256, .inl v_slots)), (h1, .inl (cI, 2628, .inl v_state))]) [3, 1] (by decide) rfl
      have hFc := va_free (wc := [(h3, .inl (cI, 5256, .inl v_slots)), (h1, .inl (cI, 2628, .inl v_state))]) hD hS hA [3, 1] rfl
      refine va_callv (va_runS (As := [.ref h3, .int ((2628 : Int32) * p1), .ref h1, .int (0 : Int32)]) (rest := []) ⟨hx, hb, hml, hown, hts⟩ (c_X7_moves l dC dI cI cC cT h3 h1 5256 2628 H.size v_slots v_state ((2628 : Int32) * p1) (0 : Int32) q6 hq6) (va_cwS 4 hts gX7_restore_X7_moves rfl rfl rfl hp_X7_moves ⟨Nat.le_of_ble_eq_true rfl, Nat.le_of_ble_eq_true rfl⟩) ⟨preB_fb, fun U hU hW => preB_mk hU hW hPc hK hDc hN⟩ rfl rfl hl.1 rfl (lv_room (Nat.le_of_ble_eq_true rfl)) dX7_restore_42 ⟨Nat.zero_le _, Nat.zero_le _⟩) hS (fun q _ h => hFc q h) hFc (fun u_ t H locs ht hvm hw hB hz1 hk1 hS => ?_)
      obtain ⟨hP, hD⟩ := x_join (ws' := [(h0, .inr (7, [.ref h1, .ref h2, .int q5.2, .ref h3, .ref h4, .ref h5, .int v_padLength, .ref h6, .int v_at, .int v_letter, .int v_hasUnder, .ref h7, .int v_numbersMany])), (h1, .inl (cI, 2628, .inl q6)), (h2, .inl (cI, 15768, .inl q5.1)), (h3, .inl (cI, 5256, .inl v_slots)), (h4, .inl (cI, 2, .inl v_isSaved))]) hP hD [3, 1] [0, 2, 4] rfl rfl (by decide) (by decide) hk1 hFc ht hB [0, 4, 1, 3, 2] (by decide) rfl
      clear hPc hDc hFc hk1 hB ht hz1 hvm
      refine lv_aload_n hx hb dX7_restore_45 rfl (lv_at hl 0 rfl) ?_
      refine va_get (D := (dC, dI)) (ci := 7) (v := .ref h1) (C := RX7) (T := TX7) (N := 13) hx hb hts inX7_restore_X7 hown hK hP 0 rfl rfl 0 (by decide) (hts _ kX7_restore_3) (fun _ h9 => h9) rfl dX7_restore_46 ?_
      refine lv_iconst (v := 3) hx hb dX7_restore_49 (by decide) ?_
      refine x_iald (k := 3) hx hb hK hP 1 0 rfl rfl (inb_in (by decide)) rfl dX7_restore_50 ?_
      cases hd
      exact hend (by rfl) hP hD hS dX7_restore_51
    · replace hd := ite_t c4 hd
      refine lv_bipush (v := -5) hx hb dX7_restore_21 (by decide) ?_
      cases hd
      exact hend (by rfl) hP hD hS dX7_restore_23
  · replace hd := ite_t c2 hd
    refine lv_bipush (v := -2) hx hb dX7_restore_9 (by decide) ?_
    cases hd
    exact hend (by rfl) hP hD hS dX7_restore_11
