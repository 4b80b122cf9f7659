set_option maxHeartbeats 8000000 in
theorem law_S {xs : Nat → Int32} {L : Nat} {K : Int32 → (Nat → Int32) → Int32 → (Nat → Int32) → (Nat → Int32) → (Nat → Int32) → (Nat → Int32) → (Nat → Int32) → (Nat → Int32) → (Nat → Int32) → Int32 → Int32 → (Nat → Int32) → (Nat → Int32) → Int32 → Int32 → (Nat → Int32) → (Nat → Int32) → (Nat → Int32) → Int32 → Int32 → Int32 → Int32 → Int32 → Int32 → Int32 → Int32 → Int64 → Int32 → Int32 → Int32 → (Nat → Int32) → (Nat → Int32) → (Nat → Int32) → (Nat → Int32) → Int32 → (Nat → Int32) → (Nat → Int32) → (Nat → Int32) → Int32 → (Nat → Int32) → Int32 → Int32 → Int32 → (Nat → Int32) → Int32 → (Nat → TV) → (Nat → TV) → Option Int32} {y3 : Int32} {se : Nat → Int32} {bl : Int32} {na un ma fi vo ba wr : Nat → Int32} {a0 a1 : Int32} {a2 a3 : Nat → Int32} {a4 a5 : Int32} {a6 a7 pc : Nat → Int32} {pl pa pk pn pt pv pu pm : Int32} {pb : Int64} {pg ho hz : Int32} {sv bw st mh : Nat → Int32} {mr : Int32} {ms mi mp : Nat → Int32} {ml : Int32} {fd : Nat → Int32} {aa le hu : Int32} {nu : Nat → Int32} {nn : Int32} {hs ss : Nat → TV} (hb : ¬ Int32.ofNat L - (6 : Int32) < y3 → inb y3 L = true ∧ GD xs L y3 ∧ ∀ (se : Nat → Int32) (bl : Int32) (na un ma fi vo ba wr : Nat → Int32) (a0 a1 : Int32) (a2 a3 : Nat → Int32) (a4 a5 : Int32) (a6 a7 pc : Nat → Int32) (pl pa pk pn pt pv pu pm : Int32) (pb : Int64) (pg ho hz : Int32) (sv bw st mh : Nat → Int32) (mr : Int32) (ms mi mp : Nat → Int32) (ml : Int32) (fd : Nat → Int32) (aa le hu : Int32) (nu : Nat → Int32) (nn : Int32) (hs ss : Nat → TV), REL se bl na un ma fi vo ba wr pc pl ho hz sv st mh mr ms mi mp ml hs ss → K (y3 + (6 : Int32)) se bl na un ma fi vo ba wr a0 a1 a2 a3 a4 a5 a6 a7 pc pl pa pk pn pt pv pu pm pb pg ho hz sv bw st mh mr ms mi mp ml fd aa le hu nu nn hs ss = some 1) (R : REL se bl na un ma fi vo ba wr pc pl ho hz sv st mh mr ms mi mp ml hs ss) : den_law_step xs L K y3 se bl na un ma fi vo ba wr a0 a1 a2 a3 a4 a5 a6 a7 pc pl pa pk pn pt pv pu pm pb pg ho hz sv bw st mh mr ms mi mp ml fd aa le hu nu nn hs ss = some 1 := by
  unfold den_law_step
  by_cases c : Int32.ofNat L - (6 : Int32) < y3
  · rw [if_pos c]
  obtain ⟨g, G, hK⟩ := hb c
  rw [if_neg c, gd_t g, nm_d]
  generalize xs y3.toNatClampNeg &&& (31 : Int32) = x3
  by_cases d0 : x3 = (0 : Int32)
  · rw [if_pos d0]
    exact lt_c0 G R (fun z0 z1 z2 z3 z4 z5 z6 R' => hK _ _ _ _ _ _ _ _ _ _ _ _ _ _ _ _ _ _ _ _ _ _ _ _ _ _ _ _ _ _ _ _ _ _ _ _ _ _ _ _ _ _ _ _ _ _ _ R')
  rw [if_neg d0]
  by_cases d1 : x3 = (1 : Int32)
  · rw [if_pos d1]
    exact lt_c1 G R (fun z0 z1 z2 z3 z4 z5 z6 z7 z8 z9 z10 z11 z12 z13 z14 R' => hK _ _ _ _ _ _ _ _ _ _ _ _ _ _ _ _ _ _ _ _ _ _ _ _ _ _ _ _ _ _ _ _ _ _ _ _ _ _ _ _ _ _ _ _ _ _ _ R')
  rw [if_neg d1]
  by_cases d2 : x3 = (2 : Int32)
  · rw [if_pos d2]
    exact lt_c2 G R (fun z0 z1 z2 z3 z4 z5 z6 R' => hK _ _ _ _ _ _ _ _ _ _ _ _ _ _ _ _ _ _ _ _ _ _ _ _ _ _ _ _ _ _ _ _ _ _ _ _ _ _ _ _ _ _ _ _ _ _ _ R')
  rw [if_neg d2]
  by_cases d3 : x3 = (3 : Int32)
  · rw [if_pos d3]
    exact lt_c3 G R (fun z0 z1 z2 z3 z4 z5 z6 R' => hK _ _ _ _ _ _ _ _ _ _ _ _ _ _ _ _ _ _ _ _ _ _ _ _ _ _ _ _ _ _ _ _ _ _ _ _ _ _ _ _ _ _ _ _ _ _ _ R')
  rw [if_neg d3]
  by_cases d4 : x3 = (4 : Int32)
  · rw [if_pos d4]
    exact lt_c4 G R (fun z0 z1 z2 z3 z4 z5 z6 R' => hK _ _ _ _ _ _ _ _ _ _ _ _ _ _ _ _ _ _ _ _ _ _ _ _ _ _ _ _ _ _ _ _ _ _ _ _ _ _ _ _ _ _ _ _ _ _ _ R')
  rw [if_neg d4]
  by_cases d5 : x3 = (5 : Int32)
  · rw [if_pos d5]
    exact lt_c5 G R (fun z0 z1 z2 z3 z4 z5 z6 z7 z8 R' => hK _ _ _ _ _ _ _ _ _ _ _ _ _ _ _ _ _ _ _ _ _ _ _ _ _ _ _ _ _ _ _ _ _ _ _ _ _ _ _ _ _ _ _ _ _ _ _ R')
  rw [if_neg d5]
  by_cases d6 : x3 = (6 : Int32)
  · rw [if_pos d6]
    exact lt_c6 G R (fun z0 z1 z2 z3 z4 z5 z6 z7 z8 R' => hK _ _ _ _ _ _ _ _ _ _ _ _ _ _ _ _ _ _ _ _ _ _ _ _ _ _ _ _ _ _ _ _ _ _ _ _ _ _ _ _ _ _ _ _ _ _ _ R')
  rw [if_neg d6]
  by_cases d7 : x3 = (7 : Int32)
  · rw [if_pos d7]
    exact lt_c7 G R (fun z0 z1 z2 z3 z4 z5 z6 z7 R' => hK _ _ _ _ _ _ _ _ _ _ _ _ _ _ _ _ _ _ _ _ _ _ _ _ _ _ _ _ _ _ _ _ _ _ _ _ _ _ _ _ _ _ _ _ _ _ _ R')
  rw [if_neg d7]
  by_cases d8 : x3 = (8 : Int32)
  · rw [if_pos d8]
    exact lt_c8 G R (fun  R' => hK _ _ _ _ _ _ _ _ _ _ _ _ _ _ _ _ _ _ _ _ _ _ _ _ _ _ _ _ _ _ _ _ _ _ _ _ _ _ _ _ _ _ _ _ _ _ _ R')
  rw [if_neg d8]
  by_cases d9 : x3 = (9 : Int32)
  · rw [if_pos d9]
    exact lt_c9 G R (fun z0 z1 z2 z3 z4 z5 z6 z7 z8 R' => hK _ _ _ _ _ _ _ _ _ _ _ _ _ _ _ _ _ _ _ _ _ _ _ _ _ _ _ _ _ _ _ _ _ _ _ _ _ _ _ _ _ _ _ _ _ _ _ R')
  rw [if_neg d9]
  by_cases d10 : x3 = (10 : Int32)
  · rw [if_pos d10]
    exact lt_c10 G R (fun z0 z1 z2 z3 z4 z5 z6 z7 z8 R' => hK _ _ _ _ _ _ _ _ _ _ _ _ _ _ _ _ _ _ _ _ _ _ _ _ _ _ _ _ _ _ _ _ _ _ _ _ _ _ _ _ _ _ _ _ _ _ _ R')
  rw [if_neg d10]
  by_cases d11 : x3 = (11 : Int32)
  · rw [if_pos d11]
    exact lt_c11 G R (fun  R' => hK _ _ _ _ _ _ _ _ _ _ _ _ _ _ _ _ _ _ _ _ _ _ _ _ _ _ _ _ _ _ _ _ _ _ _ _ _ _ _ _ _ _ _ _ _ _ _ R')
  rw [if_neg d11]
  by_cases d12 : x3 = (12 : Int32)
  · rw [if_pos d12]
    exact lt_c12 G R (fun z0 z1 z2 z3 z4 z5 z6 z7 z8 z9 R' => hK _ _ _ _ _ _ _ _ _ _ _ _ _ _ _ _ _ _ _ _ _ _ _ _ _ _ _ _ _ _ _ _ _ _ _ _ _ _ _ _ _ _ _ _ _ _ _ R')
  rw [if_neg d12]
  by_cases d13 : x3 = (13 : Int32)
  · rw [if_pos d13]
    exact lt_c13 G R (fun z0 z1 z2 z3 z4 z5 z6 z7 z8 R' => hK _ _ _ _ _ _ _ _ _ _ _ _ _ _ _ _ _ _ _ _ _ _ _ _ _ _ _ _ _ _ _ _ _ _ _ _ _ _ _ _ _ _ _ _ _ _ _ R')
  rw [if_neg d13]
  by_cases d14 : x3 = (14 : Int32)
  · rw [if_pos d14]
    exact lt_c14 G R (fun z0 z1 z2 z3 z4 z5 z6 z7 z8 z9 R' => hK _ _ _ _ _ _ _ _ _ _ _ _ _ _ _ _ _ _ _ _ _ _ _ _ _ _ _ _ _ _ _ _ _ _ _ _ _ _ _ _ _ _ _ _ _ _ _ R')
  rw [if_neg d14]
  by_cases d15 : x3 = (15 : Int32)
  · rw [if_pos d15]
    exact lt_c15 G R (fun z0 z1 z2 z3 R' => hK _ _ _ _ _ _ _ _ _ _ _ _ _ _ _ _ _ _ _ _ _ _ _ _ _ _ _ _ _ _ _ _ _ _ _ _ _ _ _ _ _ _ _ _ _ _ _ R')
  rw [if_neg d15]
  by_cases d16 : x3 = (16 : Int32)
  · rw [if_pos d16]
    exact lt_c16 G R (fun z0 z1 R' => hK _ _ _ _ _ _ _ _ _ _ _ _ _ _ _ _ _ _ _ _ _ _ _ _ _ _ _ _ _ _ _ _ _ _ _ _ _ _ _ _ _ _ _ _ _ _ _ R')
  rw [if_neg d16]
  by_cases d17 : x3 = (17 : Int32)
  · rw [if_pos d17]
    exact lt_c17 G R (fun z0 z1 z2 z3 z4 z5 z6 z7 z8 z9 z10 z11 z12 z13 R' => hK _ _ _ _ _ _ _ _ _ _ _ _ _ _ _ _ _ _ _ _ _ _ _ _ _ _ _ _ _ _ _ _ _ _ _ _ _ _ _ _ _ _ _ _ _ _ _ R')
  rw [if_neg d17]
  by_cases d18 : x3 = (18 : Int32)
  · rw [if_pos d18]
    exact lt_c18 G R (fun z0 z1 z2 z3 z4 z5 z6 z7 z8 z9 z10 z11 z12 z13 z14 z15 z16 z17 z18 z19 z20 z21 z22 z23 z24 z25 z26 z27 z28 z29 z30 R' => hK _ _ _ _ _ _ _ _ _ _ _ _ _ _ _ _ _ _ _ _ _ _ _ _ _ _ _ _ _ _ _ _ _ _ _ _ _ _ _ _ _ _ _ _ _ _ _ R')
  rw [if_neg d18]
  by_cases d19 : x3 = (19 : Int32)
  · rw [if_pos d19]
    exact lt_c19 G R (fun z0 z1 z2 z3 z4 z5 z6 z7 z8 z9 z10 z11 R' => hK _ _ _ _ _ _ _ _ _ _ _ _ _ _ _ _ _ _ _ _ _ _ _ _ _ _ _ _ _ _ _ _ _ _ _ _ _ _ _ _ _ _ _ _ _ _ _ R')
  rw [if_neg d19]
  by_cases d20 : x3 = (20 : Int32)
  · rw [if_pos d20]
    exact lt_c20 G R (fun z0 z1 z2 z3 R' => hK _ _ _ _ _ _ _ _ _ _ _ _ _ _ _ _ _ _ _ _ _ _ _ _ _ _ _ _ _ _ _ _ _ _ _ _ _ _ _ _ _ _ _ _ _ _ _ R')
  rw [if_neg d20]
  by_cases d21 : x3 = (21 : Int32)
  · rw [if_pos d21]
    exact lt_c21 G R (fun z0 z1 z2 z3 z4 z5 z6 z7 z8 z9 z10 z11 z12 z13 z14 R' => hK _ _ _ _ _ _ _ _ _ _ _ _ _ _ _ _ _ _ _ _ _ _ _ _ _ _ _ _ _ _ _ _ _ _ _ _ _ _ _ _ _ _ _ _ _ _ _ R')
  rw [if_neg d21]
  exact hK _ _ _ _ _ _ _ _ _ _ _ _ _ _ _ _ _ _ _ _ _ _ _ _ _ _ _ _ _ _ _ _ _ _ _ _ _ _ _ _ _ _ _ _ _ _ _ R
theorem inb_n {j L : Nat} (h : j < L) (hL : L ≤ 3072) : inb (nI j) L = true := by
  unfold inb
  rw [nI_clamp (by omega), Bool.and_eq_true]
  exact ⟨decide_eq_true (nI_pos (by omega)), decide_eq_true h⟩
theorem law_L {xs : Nat → Int32} {L : Nat} (hL : L ≤ 3072) : ∀ (d fu y : Nat) (se : Nat → Int32) (bl : Int32) (na un ma fi vo ba wr : Nat → Int32) (a0 a1 : Int32) (a2 a3 : Nat → Int32) (a4 a5 : Int32) (a6 a7 pc : Nat → Int32) (pl pa pk pn pt pv pu pm : Int32) (pb : Int64) (pg ho hz : Int32) (sv bw st mh : Nat → Int32) (mr : Int32) (ms mi mp : Nat → Int32) (ml : Int32) (fd : Nat → Int32) (aa le hu : Int32) (nu : Nat → Int32) (nn : Int32) (hs ss : Nat → TV), L + 1 ≤ y + d → d < fu → y ≤ 3078 → REL se bl na un ma fi vo ba wr pc pl ho hz sv st mh mr ms mi mp ml hs ss → den_law xs L fu (nI y) se bl na un ma fi vo ba wr a0 a1 a2 a3 a4 a5 a6 a7 pc pl pa pk pn pt pv pu pm pb pg ho hz sv bw st mh mr ms mi mp ml fd aa le hu nu nn hs ss = some 1 := by
  intro d
  induction d with
  | zero =>
    intro fu y se bl na un ma fi vo ba wr a0 a1 a2 a3 a4 a5 a6 a7 pc pl pa pk pn pt pv pu pm pb pg ho hz sv bw st mh mr ms mi mp ml fd aa le hu nu nn hs ss h1 h2 h3 R
    cases fu with
    | zero => omega
    | succ fu =>
      rw [den_law]
      refine law_S (fun c => ?_) R
      have hc : y + 6 ≤ L := by
        have e := pk_sub_toInt (a := L) (b := 6) (by omega) (by omega)
        have c2 : ¬ nI L - nI 6 < nI y := c
        rw [lt_iff, e, nI_toInt (by omega)] at c2
        omega
      exfalso
      omega
  | succ d ih =>
    intro fu y se bl na un ma fi vo ba wr a0 a1 a2 a3 a4 a5 a6 a7 pc pl pa pk pn pt pv pu pm pb pg ho hz sv bw st mh mr ms mi mp ml fd aa le hu nu nn hs ss h1 h2 h3 R
    cases fu with
    | zero => omega
    | succ fu =>
      rw [den_law]
      refine law_S (fun c => ?_) R
      have hc : y + 6 ≤ L := by
        have e := pk_sub_toInt (a := L) (b := 6) (by omega) (by omega)
        have c2 : ¬ nI L - nI 6 < nI y := c
        rw [lt_iff, e, nI_toInt (by omega)] at c2
        omega
      have q : ∀ k, k < 6 → inb (nI y + nI k) L = true := fun k hk => by
        rw [nI_add]
        exact inb_n (by omega) hL
      refine ⟨inb_n (by omega) hL, ⟨q 1 (by omega), q 2 (by omega), q 3 (by omega), q 4 (by omega), q 5 (by omega)⟩, ?_⟩
      intro se bl na un ma fi vo ba wr a0 a1 a2 a3 a4 a5 a6 a7 pc pl pa pk pn pt pv pu pm pb pg ho hz sv bw st mh mr ms mi mp ml fd aa le hu nu nn hs ss R'
      rw [show nI y + (6 : Int32) = nI (y + 6) by rw [li6, nI_add]]
      exact ih fu (y + 6) _ _ _ _ _ _ _ _ _ _ _ _ _ _ _ _ _ _ _ _ _ _ _ _ _ _ _ _ _ _ _ _ _ _ _ _ _ _ _ _ _ _ _ _ _ _ _ (by omega) (by omega) (by omega) R'
theorem REL_0 : REL (upd (upd (upd (fun _ => 0) 0 60) 1 30) 2 3) 0 (fun _ => 0) (fun _ => 0) (fun _ => 0) (fun _ => 0) (fun _ => 0) (fun _ => 0) (fun _ => 0) (fun _ => 0) 0 0 0 (fun _ => 0) (upd (upd (upd (fun _ => 0) 0 60) 1 30) 2 3) (fun _ => 0) 0 (fun _ => 0) (fun _ => 0) (fun _ => 0) 0 (fun _ => ((upd (upd (upd (fun _ => 0) 0 60) 1 30) 2 3), 0, (fun _ => 0), (fun _ => 0), (fun _ => 0), (fun _ => 0), (fun _ => 0), (fun _ => 0), (fun _ => 0))) (fun _ => ((upd (upd (upd (fun _ => 0) 0 60) 1 30) 2 3), 0, (fun _ => 0), (fun _ => 0), (fun _ => 0), (fun _ => 0), (fun _ => 0), (fun _ => 0), (fun _ => 0))) := by
  have h3 : (upd (upd (upd (fun _ => (0 : Int32)) 0 60) 1 30) 2 3) 3 = 0 := by rw [pk_un (by omega), pk_un (by omega), pk_un (by omega)]
  have h0 : (upd (upd (upd (fun _ => (0 : Int32)) 0 60) 1 30) 2 3) 0 = nI 60 := by rw [pk_un (by omega), pk_un (by omega), pk_us]; rfl
  have h1 : (upd (upd (upd (fun _ => (0 : Int32)) 0 60) 1 30) 2 3) 1 = nI 30 := by rw [pk_un (by omega), pk_us]; rfl
  have h2 : (upd (upd (upd (fun _ => (0 : Int32)) 0 60) 1 30) 2 3) 2 = nI 3 := by rw [pk_us]; rfl
  have hn : nB (upd (upd (upd (fun _ => (0 : Int32)) 0 60) 1 30) 2 3) = 0 := (congrArg Int32.toNatClampNeg h3).trans rfl
  have hl : lB (upd (upd (upd (fun _ => (0 : Int32)) 0 60) 1 30) 2 3) = 30 := (congrArg Int32.toNatClampNeg h1).trans (nI_clamp (by omega))
  refine ⟨⟨⟨?_, ?_, ?_, ?_, ?_, ?_, ⟨60, by omega, h0⟩, ⟨3, by omega, h2⟩⟩, ⟨rfl, rfl, rfl⟩, h3.symm, ?_, ?_, ?_, ?_⟩, ⟨0, 0, rfl, rfl, rfl, by omega, by omega, fun i hi => absurd hi (Nat.not_lt_zero i)⟩, fun k hk => Or.inl ⟨rfl, rfl⟩, 0, rfl, rfl, by omega, fun j hj => absurd hj (Nat.not_lt_zero j)⟩
  · rw [hn, h3]; rfl
  · rw [hn]; omega
  · rw [hn]; exact fun b hb => absurd hb (Nat.not_lt_zero b)
  · rw [hn]; exact fun b hb => absurd hb (Nat.not_lt_zero b)
  · rw [hl, h1]
  · rw [hl]; omega
  · rw [hn]; exact fun b hb => absurd hb (Nat.not_lt_zero b)
  · rw [hn]; intro b hb
    have : b = 0 := by omega
    subst this; rfl
  · rw [hn]; exact fun b hb => absurd hb (Nat.not_lt_zero b)
  · rw [hn]; exact fun b t p hb => absurd hb (Nat.not_lt_zero b)
