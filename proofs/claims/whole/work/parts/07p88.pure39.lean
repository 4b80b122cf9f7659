/-! the law, step by step: both classes answer the same at every call -/
def REL (se : Nat → Int32) (bl : Int32) (na un ma fi vo ba wr pc : Nat → Int32) (pl ho hz : Int32) (sv st mh : Nat → Int32) (mr : Int32) (ms mi mp : Nat → Int32) (ml : Int32) (hs ss : Nat → TV) : Prop := RT se bl na un ma fi vo ba wr st ∧ RHx ho hz hs mh mr ∧ RSx sv ss ms mi ∧ PD pc mp pl ml
def GD (xs : Nat → Int32) (L : Nat) (y3 : Int32) : Prop := inb (y3 + (1 : Int32)) L = true ∧ inb (y3 + (2 : Int32)) L = true ∧ inb (y3 + (3 : Int32)) L = true ∧ inb (y3 + (4 : Int32)) L = true ∧ inb (y3 + (5 : Int32)) L = true
theorem lgc (x : Int64) : lg_cmp x x = 0 := by rw [lg_cmp_eq]
set_option maxHeartbeats 4000000 in
theorem lt_c0 {xs : Nat → Int32} {L : Nat} {y3 : Int32} (G : GD xs L y3) {se : Nat → Int32} {bl : Int32} {na un ma fi vo ba wr pc : Nat → Int32} {pl ho hz : Int32} {sv st mh : Nat → Int32} {mr : Int32} {ms mi mp : Nat → Int32} {ml : Int32} {hs ss : Nat → TV} (R : REL se bl na un ma fi vo ba wr pc pl ho hz sv st mh mr ms mi mp ml hs ss) {J : (Nat → Int32) → Int32 → Int32 → (Nat → Int32) → (Nat → Int32) → Int32 → (Nat → TV) → Option Int32} (hJ : ∀ z0 z1 z2 z3 z4 z5 z6, REL z0 bl na un ma fi vo ba wr pc pl z1 z2 sv z3 z4 z5 ms mi mp ml z6 ss → J z0 z1 z2 z3 z4 z5 z6 = some 1) : den_law_c0 xs L y3 se bl na un ma fi vo ba wr ho hz st mh mr hs J = some 1 := by
  obtain ⟨r, H, S, P⟩ := R
  obtain ⟨v, se', a, b, c, st', h', m', e1, e2, r', H'⟩ := k_set r H (xs (y3 + (1 : Int32)).toNatClampNeg) (xs (y3 + (2 : Int32)).toNatClampNeg)
  unfold den_law_c0
  rw [gd_t G.1, gd_t G.2.1, e1, bnd_s, gd_t G.1, gd_t G.2.1, e2, bnd_s, if_pos rfl]
  exact hJ _ _ _ _ _ _ _ ⟨r', H', S, P⟩
set_option maxHeartbeats 4000000 in
theorem lt_c1 {xs : Nat → Int32} {L : Nat} {y3 : Int32} (G : GD xs L y3) {se : Nat → Int32} {bl : Int32} {na un ma fi vo ba wr pc : Nat → Int32} {pl ho hz : Int32} {sv st mh : Nat → Int32} {mr : Int32} {ms mi mp : Nat → Int32} {ml : Int32} {fd : Nat → Int32} {hs ss : Nat → TV} (R : REL se bl na un ma fi vo ba wr pc pl ho hz sv st mh mr ms mi mp ml hs ss) {J : Int32 → (Nat → Int32) → (Nat → Int32) → (Nat → Int32) → (Nat → Int32) → (Nat → Int32) → (Nat → Int32) → (Nat → Int32) → Int32 → Int32 → (Nat → Int32) → (Nat → Int32) → Int32 → (Nat → Int32) → (Nat → TV) → Option Int32} (hJ : ∀ z0 z1 z2 z3 z4 z5 z6 z7 z8 z9 z10 z11 z12 z13 z14, REL se z0 z1 z2 z3 z4 z5 z6 z7 pc pl z8 z9 sv z10 z11 z12 ms mi mp ml z14 ss → J z0 z1 z2 z3 z4 z5 z6 z7 z8 z9 z10 z11 z12 z13 z14 = some 1) : den_law_c1 xs L y3 se bl na un ma fi vo ba wr ho hz st mh mr fd hs J = some 1 := by
  obtain ⟨r, H, S, P⟩ := R
  obtain ⟨v, t, a, b, c, st', h', m', fd', e1, e2, e3, r', H'⟩ := k_write r H fd (xs (y3 + (1 : Int32)).toNatClampNeg) (xs (y3 + (2 : Int32)).toNatClampNeg) (xs (y3 + (3 : Int32)).toNatClampNeg) (((((xs (y3 + (4 : Int32)).toNatClampNeg)).toInt64) <<< (((32 : Int32)).toInt64 &&& 63)) ||| ((((xs (y3 + (5 : Int32)).toNatClampNeg)).toInt64) &&& (4294967295 : Int64)))
  have r2 : RT se t.2.1 t.2.2.1 t.2.2.2.1 t.2.2.2.2.1 t.2.2.2.2.2.1 t.2.2.2.2.2.2.1 t.2.2.2.2.2.2.2.1 t.2.2.2.2.2.2.2.2 st' := by
    have q := r'
    unfold RTv at q
    rw [e3] at q
    exact q
  unfold den_law_c1
  rw [gd_t G.1, gd_t G.2.1, gd_t G.2.2.1, gd_t G.2.2.2.1, gd_t G.2.2.2.2, e1, bnd_s, gd_t G.1, gd_t G.2.1, gd_t G.2.2.1, gd_t G.2.2.2.1, gd_t G.2.2.2.2, e2, bnd_s, if_pos rfl]
  exact hJ _ _ _ _ _ _ _ _ _ _ _ _ _ _ _ ⟨r2, H', S, P⟩
set_option maxHeartbeats 4000000 in
theorem lt_c2 {xs : Nat → Int32} {L : Nat} {y3 : Int32} (G : GD xs L y3) {se : Nat → Int32} {bl : Int32} {na un ma fi vo ba wr pc : Nat → Int32} {pl ho hz : Int32} {sv st mh : Nat → Int32} {mr : Int32} {ms mi mp : Nat → Int32} {ml : Int32} {hs ss : Nat → TV} (R : REL se bl na un ma fi vo ba wr pc pl ho hz sv st mh mr ms mi mp ml hs ss) {J : Int32 → Int32 → Int32 → (Nat → Int32) → (Nat → Int32) → Int32 → (Nat → TV) → Option Int32} (hJ : ∀ z0 z1 z2 z3 z4 z5 z6, REL se z0 na un ma fi vo ba wr pc pl z1 z2 sv z3 z4 z5 ms mi mp ml z6 ss → J z0 z1 z2 z3 z4 z5 z6 = some 1) : den_law_c2 se bl na un ma fi vo ba wr ho hz st mh mr hs J = some 1 := by
  obtain ⟨r, H, S, P⟩ := R
  obtain ⟨v, bl', a, b, c, st', h', m', e1, e2, r', H'⟩ := k_wipeLast r H
  unfold den_law_c2
  rw [e1, bnd_s, e2, bnd_s, if_pos rfl]
  exact hJ _ _ _ _ _ _ _ ⟨r', H', S, P⟩
set_option maxHeartbeats 4000000 in
theorem lt_c3 {xs : Nat → Int32} {L : Nat} {y3 : Int32} (G : GD xs L y3) {se : Nat → Int32} {bl : Int32} {na un ma fi vo ba wr pc : Nat → Int32} {pl ho hz : Int32} {sv st mh : Nat → Int32} {mr : Int32} {ms mi mp : Nat → Int32} {ml : Int32} {hs ss : Nat → TV} (R : REL se bl na un ma fi vo ba wr pc pl ho hz sv st mh mr ms mi mp ml hs ss) {J : (Nat → Int32) → Int32 → Int32 → (Nat → Int32) → (Nat → Int32) → Int32 → (Nat → TV) → Option Int32} (hJ : ∀ z0 z1 z2 z3 z4 z5 z6, REL se bl na un ma fi z0 ba wr pc pl z1 z2 sv z3 z4 z5 ms mi mp ml z6 ss → J z0 z1 z2 z3 z4 z5 z6 = some 1) : den_law_c3 xs L y3 se bl na un ma fi vo ba wr ho hz st mh mr hs J = some 1 := by
  obtain ⟨r, H, S, P⟩ := R
  obtain ⟨v, vo', a, b, c, st', h', m', e1, e2, r', H'⟩ := k_fade r H (xs (y3 + (1 : Int32)).toNatClampNeg) (xs (y3 + (2 : Int32)).toNatClampNeg) (xs (y3 + (3 : Int32)).toNatClampNeg)
  unfold den_law_c3
  rw [gd_t G.1, gd_t G.2.1, gd_t G.2.2.1, e1, bnd_s, gd_t G.1, gd_t G.2.1, gd_t G.2.2.1, e2, bnd_s, if_pos rfl]
  exact hJ _ _ _ _ _ _ _ ⟨r', H', S, P⟩
set_option maxHeartbeats 4000000 in
theorem lt_c4 {xs : Nat → Int32} {L : Nat} {y3 : Int32} (G : GD xs L y3) {se : Nat → Int32} {bl : Int32} {na un ma fi vo ba wr pc : Nat → Int32} {pl ho hz : Int32} {sv st mh : Nat → Int32} {mr : Int32} {ms mi mp : Nat → Int32} {ml : Int32} {hs ss : Nat → TV} (R : REL se bl na un ma fi vo ba wr pc pl ho hz sv st mh mr ms mi mp ml hs ss) {J : (Nat → Int32) → Int32 → Int32 → (Nat → Int32) → (Nat → Int32) → Int32 → (Nat → TV) → Option Int32} (hJ : ∀ z0 z1 z2 z3 z4 z5 z6, REL se bl na un ma fi vo z0 wr pc pl z1 z2 sv z3 z4 z5 ms mi mp ml z6 ss → J z0 z1 z2 z3 z4 z5 z6 = some 1) : den_law_c4 xs L y3 se bl na un ma fi vo ba wr ho hz st mh mr hs J = some 1 := by
  obtain ⟨r, H, S, P⟩ := R
  obtain ⟨v, ba', a, b, c, st', h', m', e1, e2, r', H'⟩ := k_spoil r H (xs (y3 + (1 : Int32)).toNatClampNeg)
  unfold den_law_c4
  rw [gd_t G.1, e1, bnd_s, gd_t G.1, e2, bnd_s, if_pos rfl]
  exact hJ _ _ _ _ _ _ _ ⟨r', H', S, P⟩
set_option maxHeartbeats 4000000 in
theorem lt_c5 {xs : Nat → Int32} {L : Nat} {y3 : Int32} (G : GD xs L y3) {se : Nat → Int32} {bl : Int32} {na un ma fi vo ba wr : Nat → Int32} {a0 a1 : Int32} {a2 a3 : Nat → Int32} {a4 a5 : Int32} {a6 a7 pc : Nat → Int32} {pl ho hz : Int32} {sv st mh : Nat → Int32} {mr : Int32} {ms mi mp : Nat → Int32} {ml : Int32} {fd : Nat → Int32} {hs ss : Nat → TV} (R : REL se bl na un ma fi vo ba wr pc pl ho hz sv st mh mr ms mi mp ml hs ss) {J : Int32 → Int32 → (Nat → Int32) → (Nat → Int32) → Int32 → Int32 → (Nat → Int32) → (Nat → Int32) → (Nat → Int32) → Option Int32} (hJ : ∀ z0 z1 z2 z3 z4 z5 z6 z7 z8, REL se bl na un ma fi vo ba wr pc pl ho hz sv st mh mr ms mi mp ml hs ss → J z0 z1 z2 z3 z4 z5 z6 z7 z8 = some 1) : den_law_c5 xs L y3 se bl na un ma fi vo ba wr a0 a1 a2 a3 a4 a5 a6 a7 st fd J = some 1 := by
  obtain ⟨r, H, S, P⟩ := R
  obtain ⟨v, x0, x1, x2, x3, x4, x5, x6, x7, fd', e1, e2⟩ := k_of r a0 a1 a2 a3 a4 a5 a6 a7 fd (xs (y3 + (1 : Int32)).toNatClampNeg) (xs (y3 + (2 : Int32)).toNatClampNeg)
  unfold den_law_c5
  rw [gd_t G.1, gd_t G.2.1, e1, bnd_s, gd_t G.1, gd_t G.2.1, e2, bnd_s, if_pos rfl]
  exact hJ _ _ _ _ _ _ _ _ _ ⟨r, H, S, P⟩
set_option maxHeartbeats 4000000 in
theorem lt_c6 {xs : Nat → Int32} {L : Nat} {y3 : Int32} (G : GD xs L y3) {se : Nat → Int32} {bl : Int32} {na un ma fi vo ba wr : Nat → Int32} {a0 a1 : Int32} {a2 a3 : Nat → Int32} {a4 a5 : Int32} {a6 a7 pc : Nat → Int32} {pl ho hz : Int32} {sv st mh : Nat → Int32} {mr : Int32} {ms mi mp : Nat → Int32} {ml : Int32} {fd : Nat → Int32} {hs ss : Nat → TV} (R : REL se bl na un ma fi vo ba wr pc pl ho hz sv st mh mr ms mi mp ml hs ss) {J : Int32 → Int32 → (Nat → Int32) → (Nat → Int32) → Int32 → Int32 → (Nat → Int32) → (Nat → Int32) → (Nat → Int32) → Option Int32} (hJ : ∀ z0 z1 z2 z3 z4 z5 z6 z7 z8, REL se bl na un ma fi vo ba wr pc pl ho hz sv st mh mr ms mi mp ml hs ss → J z0 z1 z2 z3 z4 z5 z6 z7 z8 = some 1) : den_law_c6 xs L y3 se bl ma fi vo ba wr a0 a1 a2 a3 a4 a5 a6 a7 st fd J = some 1 := by
  obtain ⟨r, H, S, P⟩ := R
  obtain ⟨v, x0, x1, x2, x3, x4, x5, x6, x7, fd', e1, e2⟩ := k_load r a0 a1 a2 a3 a4 a5 a6 a7 fd (xs (y3 + (1 : Int32)).toNatClampNeg)
  unfold den_law_c6
  rw [gd_t G.1, e1, bnd_s, gd_t G.1, e2, bnd_s, if_pos (lgc _)]
  exact hJ _ _ _ _ _ _ _ _ _ ⟨r, H, S, P⟩
set_option maxHeartbeats 4000000 in
theorem lt_c7 {xs : Nat → Int32} {L : Nat} {y3 : Int32} (G : GD xs L y3) {se : Nat → Int32} {bl : Int32} {na un ma fi vo ba wr : Nat → Int32} {a0 a1 : Int32} {a2 a3 : Nat → Int32} {a4 a5 : Int32} {a6 a7 pc : Nat → Int32} {pl ho hz : Int32} {sv st mh : Nat → Int32} {mr : Int32} {ms mi mp : Nat → Int32} {ml : Int32} {hs ss : Nat → TV} (R : REL se bl na un ma fi vo ba wr pc pl ho hz sv st mh mr ms mi mp ml hs ss) {J : Int32 → Int32 → (Nat → Int32) → (Nat → Int32) → Int32 → Int32 → (Nat → Int32) → (Nat → Int32) → Option Int32} (hJ : ∀ z0 z1 z2 z3 z4 z5 z6 z7, REL se bl na un ma fi vo ba wr pc pl ho hz sv st mh mr ms mi mp ml hs ss → J z0 z1 z2 z3 z4 z5 z6 z7 = some 1) : den_law_c7 xs L y3 se bl ma fi vo ba wr a0 a1 a2 a3 a4 a5 a6 a7 st J = some 1 := by
  obtain ⟨r, H, S, P⟩ := R
  obtain ⟨v, x0, x1, x2, x3, x4, x5, x6, x7, e1, e2⟩ := k_read r a0 a1 a2 a3 a4 a5 a6 a7 (xs (y3 + (1 : Int32)).toNatClampNeg) (xs (y3 + (2 : Int32)).toNatClampNeg) (xs (y3 + (3 : Int32)).toNatClampNeg)
  unfold den_law_c7
  rw [gd_t G.1, gd_t G.2.1, gd_t G.2.2.1, e1, bnd_s, gd_t G.1, gd_t G.2.1, gd_t G.2.2.1, e2, bnd_s, if_pos rfl]
  exact hJ _ _ _ _ _ _ _ _ ⟨r, H, S, P⟩
set_option maxHeartbeats 4000000 in
theorem lt_c8 {xs : Nat → Int32} {L : Nat} {y3 : Int32} (G : GD xs L y3) {se : Nat → Int32} {bl : Int32} {na un ma fi vo ba wr pc : Nat → Int32} {pl ho hz : Int32} {sv st mh : Nat → Int32} {mr : Int32} {ms mi mp : Nat → Int32} {ml : Int32} {hs ss : Nat → TV} (R : REL se bl na un ma fi vo ba wr pc pl ho hz sv st mh mr ms mi mp ml hs ss) {J : Unit → Option Int32} (hJ : REL se bl na un ma fi vo ba wr pc pl ho hz sv st mh mr ms mi mp ml hs ss → J () = some 1) : den_law_c8 xs L y3 se bl ma fi vo ba wr st J = some 1 := by
  obtain ⟨r, H, S, P⟩ := R
  obtain ⟨v, e1, e2⟩ := k_cell r (xs (y3 + (1 : Int32)).toNatClampNeg) (xs (y3 + (2 : Int32)).toNatClampNeg)
  unfold den_law_c8
  rw [gd_t G.1, gd_t G.2.1, e1, bnd_s, gd_t G.1, gd_t G.2.1, e2, bnd_s, if_pos rfl]
  exact hJ ⟨r, H, S, P⟩
set_option maxHeartbeats 4000000 in
theorem lt_c9 {xs : Nat → Int32} {L : Nat} {y3 : Int32} (G : GD xs L y3) {se : Nat → Int32} {bl : Int32} {na un ma fi vo ba wr : Nat → Int32} {a0 a1 : Int32} {a2 a3 : Nat → Int32} {a4 a5 : Int32} {a6 a7 pc : Nat → Int32} {pl ho hz : Int32} {sv st mh : Nat → Int32} {mr : Int32} {ms mi mp : Nat → Int32} {ml : Int32} {fd : Nat → Int32} {hs ss : Nat → TV} (R : REL se bl na un ma fi vo ba wr pc pl ho hz sv st mh mr ms mi mp ml hs ss) {J : Int32 → Int32 → (Nat → Int32) → (Nat → Int32) → Int32 → Int32 → (Nat → Int32) → (Nat → Int32) → (Nat → Int32) → Option Int32} (hJ : ∀ z0 z1 z2 z3 z4 z5 z6 z7 z8, REL se bl na un ma fi vo ba wr pc pl ho hz sv st mh mr ms mi mp ml hs ss → J z0 z1 z2 z3 z4 z5 z6 z7 z8 = some 1) : den_law_c9 xs L y3 se bl ma fi vo ba wr a0 a1 a2 a3 a4 a5 a6 a7 pl hz st mr ml fd J = some 1 := by
  obtain ⟨r, H, S, P⟩ := R
  have hmr : mr = hz := by
    obtain ⟨o, z, w1, w2, w3, -⟩ := H
    rw [w2, w3]
  have hml : ml = pl := by
    obtain ⟨len, w1, w2, -, -⟩ := P
    rw [w1, w2]
  obtain ⟨v, x0, x1, x2, x3, x4, x5, x6, x7, fd', e1, e2⟩ := k_count r a0 a1 a2 a3 a4 a5 a6 a7 fd pl hz (xs (y3 + (1 : Int32)).toNatClampNeg)
  unfold den_law_c9
  rw [gd_t G.1, e1, bnd_s, gd_t G.1, hmr, hml, e2, bnd_s, if_pos rfl]
  exact hJ _ _ _ _ _ _ _ _ _ ⟨r, H, S, P⟩
set_option maxHeartbeats 4000000 in
theorem lt_c10 {xs : Nat → Int32} {L : Nat} {y3 : Int32} (G : GD xs L y3) {se : Nat → Int32} {bl : Int32} {na un ma fi vo ba wr : Nat → Int32} {a0 a1 : Int32} {a2 a3 : Nat → Int32} {a4 a5 : Int32} {a6 a7 pc : Nat → Int32} {pl ho hz : Int32} {sv st mh : Nat → Int32} {mr : Int32} {ms mi mp : Nat → Int32} {ml : Int32} {fd : Nat → Int32} {hs ss : Nat → TV} (R : REL se bl na un ma fi vo ba wr pc pl ho hz sv st mh mr ms mi mp ml hs ss) {J : Int32 → Int32 → (Nat → Int32) → (Nat → Int32) → Int32 → Int32 → (Nat → Int32) → (Nat → Int32) → (Nat → Int32) → Option Int32} (hJ : ∀ z0 z1 z2 z3 z4 z5 z6 z7 z8, REL se bl na un ma fi vo ba wr pc pl ho hz sv st mh mr ms mi mp ml hs ss → J z0 z1 z2 z3 z4 z5 z6 z7 z8 = some 1) : den_law_c10 se bl un ma fi vo ba wr a0 a1 a2 a3 a4 a5 a6 a7 st fd J = some 1 := by
  obtain ⟨r, H, S, P⟩ := R
  obtain ⟨v, x0, x1, x2, x3, x4, x5, x6, x7, fd', e1, e2⟩ := k_reached r a0 a1 a2 a3 a4 a5 a6 a7 fd
  unfold den_law_c10
  rw [e1, bnd_s, e2, bnd_s, if_pos rfl]
  exact hJ _ _ _ _ _ _ _ _ _ ⟨r, H, S, P⟩
set_option maxHeartbeats 4000000 in
theorem lt_c11 {xs : Nat → Int32} {L : Nat} {y3 : Int32} (G : GD xs L y3) {se : Nat → Int32} {bl : Int32} {na un ma fi vo ba wr pc : Nat → Int32} {pl ho hz : Int32} {sv st mh : Nat → Int32} {mr : Int32} {ms mi mp : Nat → Int32} {ml : Int32} {hs ss : Nat → TV} (R : REL se bl na un ma fi vo ba wr pc pl ho hz sv st mh mr ms mi mp ml hs ss) {J : Unit → Option Int32} (hJ : REL se bl na un ma fi vo ba wr pc pl ho hz sv st mh mr ms mi mp ml hs ss → J () = some 1) : den_law_c11 xs L y3 se bl fi st J = some 1 := by
  obtain ⟨r, H, S, P⟩ := R
  obtain ⟨v, e1, e2⟩ := k_near r (xs (y3 + (1 : Int32)).toNatClampNeg) (xs (y3 + (2 : Int32)).toNatClampNeg)
  unfold den_law_c11
  rw [gd_t G.1, gd_t G.2.1, e1, bnd_s, gd_t G.1, gd_t G.2.1, e2, bnd_s, if_pos rfl]
  exact hJ ⟨r, H, S, P⟩
set_option maxHeartbeats 4000000 in
theorem lt_c12 {xs : Nat → Int32} {L : Nat} {y3 : Int32} (G : GD xs L y3) {se : Nat → Int32} {bl : Int32} {na un ma fi vo ba wr : Nat → Int32} {a0 a1 : Int32} {a2 a3 : Nat → Int32} {a4 a5 : Int32} {a6 a7 pc : Nat → Int32} {pl ho hz : Int32} {sv st mh : Nat → Int32} {mr : Int32} {ms mi mp : Nat → Int32} {ml : Int32} {fd : Nat → Int32} {hs ss : Nat → TV} (R : REL se bl na un ma fi vo ba wr pc pl ho hz sv st mh mr ms mi mp ml hs ss) {J : Int32 → Int32 → (Nat → Int32) → (Nat → Int32) → Int32 → Int32 → (Nat → Int32) → (Nat → Int32) → (Nat → Int32) → (Nat → Int32) → Option Int32} (hJ : ∀ z0 z1 z2 z3 z4 z5 z6 z7 z8 z9, REL se bl na un ma fi vo ba wr pc pl ho hz sv z8 mh mr ms mi mp ml hs ss → J z0 z1 z2 z3 z4 z5 z6 z7 z8 z9 = some 1) : den_law_c12 xs L y3 bl ma fi vo ba wr a0 a1 a2 a3 a4 a5 a6 a7 st fd J = some 1 := by
  obtain ⟨r, H, S, P⟩ := R
  obtain ⟨v, x0, x1, x2, x3, x4, x5, x6, x7, st', fd', e1, e2, e3⟩ := k_mostLeast r a0 a1 a2 a3 a4 a5 a6 a7 fd (xs (y3 + (1 : Int32)).toNatClampNeg)
  rw [e3] at e2
  unfold den_law_c12
  rw [gd_t G.1, e1, bnd_s, gd_t G.1, e2, bnd_s, if_pos rfl]
  exact hJ _ _ _ _ _ _ _ _ _ _ ⟨r, H, S, P⟩
set_option maxHeartbeats 4000000 in
theorem lt_c13 {xs : Nat → Int32} {L : Nat} {y3 : Int32} (G : GD xs L y3) {se : Nat → Int32} {bl : Int32} {na un ma fi vo ba wr : Nat → Int32} {a0 a1 : Int32} {a2 a3 : Nat → Int32} {a4 a5 : Int32} {a6 a7 pc : Nat → Int32} {pl ho hz : Int32} {sv st mh : Nat → Int32} {mr : Int32} {ms mi mp : Nat → Int32} {ml : Int32} {hs ss : Nat → TV} (R : REL se bl na un ma fi vo ba wr pc pl ho hz sv st mh mr ms mi mp ml hs ss) {J : Int32 → Int32 → (Nat → Int32) → (Nat → Int32) → Int32 → Int32 → (Nat → Int32) → (Nat → Int32) → (Nat → Int32) → Option Int32} (hJ : ∀ z0 z1 z2 z3 z4 z5 z6 z7 z8, REL se bl na un ma fi vo ba wr pc pl ho hz sv z8 mh mr ms mi mp ml hs ss → J z0 z1 z2 z3 z4 z5 z6 z7 z8 = some 1) : den_law_c13 xs L y3 se bl ma fi vo ba wr a0 a1 a2 a3 a4 a5 a6 a7 st J = some 1 := by
  obtain ⟨r, H, S, P⟩ := R
  obtain ⟨v, x0, x1, x2, x3, x4, x5, x6, x7, e1, e2⟩ := k_weak r a0 a1 a2 a3 a4 a5 a6 a7 (xs (y3 + (1 : Int32)).toNatClampNeg) (xs (y3 + (2 : Int32)).toNatClampNeg)
  unfold den_law_c13
  rw [gd_t G.1, gd_t G.2.1, e1, bnd_s, gd_t G.1, gd_t G.2.1, e2, bnd_s, if_pos rfl]
  exact hJ _ _ _ _ _ _ _ _ _ ⟨r, H, S, P⟩
set_option maxHeartbeats 4000000 in
theorem lt_c14 {xs : Nat → Int32} {L : Nat} {y3 : Int32} (G : GD xs L y3) {se : Nat → Int32} {bl : Int32} {na un ma fi vo ba wr : Nat → Int32} {a0 a1 : Int32} {a2 a3 : Nat → Int32} {a4 a5 : Int32} {a6 a7 pc : Nat → Int32} {pl ho hz : Int32} {sv bw st mh : Nat → Int32} {mr : Int32} {ms mi mp : Nat → Int32} {ml : Int32} {fd : Nat → Int32} {hs ss : Nat → TV} (R : REL se bl na un ma fi vo ba wr pc pl ho hz sv st mh mr ms mi mp ml hs ss) {J : Int32 → Int32 → (Nat → Int32) → (Nat → Int32) → Int32 → Int32 → (Nat → Int32) → (Nat → Int32) → (Nat → Int32) → (Nat → Int32) → Option Int32} (hJ : ∀ z0 z1 z2 z3 z4 z5 z6 z7 z8 z9, REL se bl na un ma fi vo ba wr pc pl ho hz sv st mh mr ms mi mp ml hs ss → J z0 z1 z2 z3 z4 z5 z6 z7 z8 z9 = some 1) : den_law_c14 xs L y3 se bl un ma fi vo ba wr a0 a1 a2 a3 a4 a5 a6 a7 bw st fd J = some 1 := by
  obtain ⟨r, H, S, P⟩ := R
  obtain ⟨v, x0, x1, x2, x3, x4, x5, x6, x7, bw', fd', e1, e2⟩ := k_widest r a0 a1 a2 a3 a4 a5 a6 a7 bw fd (xs (y3 + (1 : Int32)).toNatClampNeg)
  unfold den_law_c14
  rw [gd_t G.1, e1, bnd_s, gd_t G.1, e2, bnd_s, if_pos rfl]
  exact hJ _ _ _ _ _ _ _ _ _ _ ⟨r, H, S, P⟩
set_option maxHeartbeats 4000000 in
theorem lt_c15 {xs : Nat → Int32} {L : Nat} {y3 : Int32} (G : GD xs L y3) {se : Nat → Int32} {bl : Int32} {na un ma fi vo ba wr pc : Nat → Int32} {pl ho hz : Int32} {sv st mh : Nat → Int32} {mr : Int32} {ms mi mp : Nat → Int32} {ml : Int32} {hs ss : Nat → TV} (R : REL se bl na un ma fi vo ba wr pc pl ho hz sv st mh mr ms mi mp ml hs ss) {J : (Nat → Int32) → Int32 → (Nat → Int32) → Int32 → Option Int32} (hJ : ∀ z0 z1 z2 z3, REL se bl na un ma fi vo ba wr z0 z1 ho hz sv st mh mr ms mi z2 z3 hs ss → J z0 z1 z2 z3 = some 1) : den_law_c15 xs L y3 pc pl mp ml J = some 1 := by
  obtain ⟨r, H, S, P⟩ := R
  obtain ⟨v, pc', pl', mp', ml', e1, e2, P'⟩ := k_put P (((((xs (y3 + (1 : Int32)).toNatClampNeg)).toInt64) <<< (((32 : Int32)).toInt64 &&& 63)) ||| ((((xs (y3 + (2 : Int32)).toNatClampNeg)).toInt64) &&& (4294967295 : Int64)))
  unfold den_law_c15
  rw [gd_t G.1, gd_t G.2.1, e1, bnd_s, gd_t G.1, gd_t G.2.1, e2, bnd_s, if_pos rfl]
  exact hJ _ _ _ _ ⟨r, H, S, P'⟩
set_option maxHeartbeats 4000000 in
theorem lt_c16 {xs : Nat → Int32} {L : Nat} {y3 : Int32} (G : GD xs L y3) {se : Nat → Int32} {bl : Int32} {na un ma fi vo ba wr pc : Nat → Int32} {pl ho hz : Int32} {sv st mh : Nat → Int32} {mr : Int32} {ms mi mp : Nat → Int32} {ml : Int32} {hs ss : Nat → TV} (R : REL se bl na un ma fi vo ba wr pc pl ho hz sv st mh mr ms mi mp ml hs ss) {J : Int32 → Int32 → Option Int32} (hJ : ∀ z0 z1, REL se bl na un ma fi vo ba wr pc z0 ho hz sv st mh mr ms mi mp z1 hs ss → J z0 z1 = some 1) : den_law_c16 pl ml J = some 1 := by
  obtain ⟨r, H, S, P⟩ := R
  obtain ⟨v, pl', ml', e1, e2, P'⟩ := k_wipe P
  unfold den_law_c16
  rw [e1, bnd_s, e2, bnd_s, if_pos rfl]
  exact hJ _ _ ⟨r, H, S, P'⟩
set_option maxHeartbeats 4000000 in
theorem lt_c17 {xs : Nat → Int32} {L : Nat} {y3 : Int32} (G : GD xs L y3) {se : Nat → Int32} {bl : Int32} {na un ma fi vo ba wr pc : Nat → Int32} {pl pa pk pn pt pv pu pm : Int32} {pb : Int64} {pg ho hz : Int32} {sv st mh : Nat → Int32} {mr : Int32} {ms mi mp : Nat → Int32} {ml aa le hu : Int32} {nu : Nat → Int32} {nn : Int32} {hs ss : Nat → TV} (R : REL se bl na un ma fi vo ba wr pc pl ho hz sv st mh mr ms mi mp ml hs ss) {J : Int32 → Int32 → Int32 → Int32 → Int32 → Int32 → Int32 → Int64 → Int32 → Int32 → Int32 → Int32 → (Nat → Int32) → Int32 → Option Int32} (hJ : ∀ z0 z1 z2 z3 z4 z5 z6 z7 z8 z9 z10 z11 z12 z13, REL se bl na un ma fi vo ba wr pc pl ho hz sv st mh mr ms mi mp ml hs ss → J z0 z1 z2 z3 z4 z5 z6 z7 z8 z9 z10 z11 z12 z13 = some 1) : den_law_c17 pc pl pa pk pn pt pv pu pm pb pg mp ml aa le hu nu nn J = some 1 := by
  obtain ⟨r, H, S, P⟩ := R
  obtain ⟨v, p, K, N, T, V, U, M, B, G', p2, L', hu', nu', nm', e1, e2⟩ := k_fault P pa pk pn pt pv pu pm pb pg aa le hu nu nn
  unfold den_law_c17
  rw [e1, bnd_s, e2, bnd_s, if_pos rfl]
  exact hJ _ _ _ _ _ _ _ _ _ _ _ _ _ _ ⟨r, H, S, P⟩
set_option maxHeartbeats 4000000 in
theorem lt_c18 {xs : Nat → Int32} {L : Nat} {y3 : Int32} (G : GD xs L y3) {se : Nat → Int32} {bl : Int32} {na un ma fi vo ba wr pc : Nat → Int32} {pl pa pk pn pt pv pu pm : Int32} {pb : Int64} {pg ho hz : Int32} {sv st mh : Nat → Int32} {mr : Int32} {ms mi mp : Nat → Int32} {ml : Int32} {fd : Nat → Int32} {aa le hu : Int32} {nu : Nat → Int32} {nn : Int32} {hs ss : Nat → TV} (R : REL se bl na un ma fi vo ba wr pc pl ho hz sv st mh mr ms mi mp ml hs ss) {J : Int32 → (Nat → Int32) → (Nat → Int32) → (Nat → Int32) → (Nat → Int32) → (Nat → Int32) → (Nat → Int32) → (Nat → Int32) → Int32 → Int32 → Int32 → Int32 → Int32 → Int32 → Int32 → Int32 → Int64 → Int32 → Int32 → Int32 → (Nat → Int32) → (Nat → Int32) → Int32 → Int32 → (Nat → Int32) → Int32 → Int32 → Int32 → (Nat → Int32) → Int32 → (Nat → TV) → Option Int32} (hJ : ∀ z0 z1 z2 z3 z4 z5 z6 z7 z8 z9 z10 z11 z12 z13 z14 z15 z16 z17 z18 z19 z20 z21 z22 z23 z24 z25 z26 z27 z28 z29 z30, REL se z0 z1 z2 z3 z4 z5 z6 z7 pc z8 z18 z19 sv z20 z21 z22 ms mi mp z23 z30 ss → J z0 z1 z2 z3 z4 z5 z6 z7 z8 z9 z10 z11 z12 z13 z14 z15 z16 z17 z18 z19 z20 z21 z22 z23 z24 z25 z26 z27 z28 z29 z30 = some 1) : den_law_c18 se bl na un ma fi vo ba wr pc pl pa pk pn pt pv pu pm pb pg ho hz st mh mr mp ml fd aa le hu nu nn hs J = some 1 := by
  obtain ⟨r, H, S, P⟩ := R
  obtain ⟨v, t, pl', p, K, N, T, V, U, M, B, G', a, b, c, st', h', m', ml', fd', p2, L', hu', nu', nm', e1, e2, e3, r', H', P'⟩ := k_carryOut r H P pa pk pn pt pv pu pm pb pg aa le hu nu nn fd
  have r2 : RT se t.2.1 t.2.2.1 t.2.2.2.1 t.2.2.2.2.1 t.2.2.2.2.2.1 t.2.2.2.2.2.2.1 t.2.2.2.2.2.2.2.1 t.2.2.2.2.2.2.2.2 st' := by
    have q := r'
    unfold RTv at q
    rw [e3] at q
    exact q
  unfold den_law_c18
  rw [e1, bnd_s, e2, bnd_s, if_pos rfl]
  exact hJ _ _ _ _ _ _ _ _ _ _ _ _ _ _ _ _ _ _ _ _ _ _ _ _ _ _ _ _ _ _ _ ⟨r2, H', S, P'⟩
set_option maxHeartbeats 4000000 in
theorem lt_c19 {xs : Nat → Int32} {L : Nat} {y3 : Int32} (G : GD xs L y3) {se : Nat → Int32} {bl : Int32} {na un ma fi vo ba wr pc : Nat → Int32} {pl ho hz : Int32} {sv st mh : Nat → Int32} {mr : Int32} {ms mi mp : Nat → Int32} {ml : Int32} {hs ss : Nat → TV} (R : REL se bl na un ma fi vo ba wr pc pl ho hz sv st mh mr ms mi mp ml hs ss) {J : (Nat → Int32) → Int32 → (Nat → Int32) → (Nat → Int32) → (Nat → Int32) → (Nat → Int32) → (Nat → Int32) → (Nat → Int32) → (Nat → Int32) → Int32 → (Nat → Int32) → Int32 → Option Int32} (hJ : ∀ z0 z1 z2 z3 z4 z5 z6 z7 z8 z9 z10 z11, REL z0 z1 z2 z3 z4 z5 z6 z7 z8 pc pl ho z9 sv z10 mh z11 ms mi mp ml hs ss → J z0 z1 z2 z3 z4 z5 z6 z7 z8 z9 z10 z11 = some 1) : den_law_c19 se bl na un ma fi vo ba wr ho hz st mh mr hs J = some 1 := by
  obtain ⟨r, H, S, P⟩ := R
  obtain ⟨v, t, hz', st', mr', e1, e2, r', H'⟩ := k_undo r H
  unfold den_law_c19
  rw [e1, bnd_s, e2, bnd_s, if_pos rfl]
  exact hJ _ _ _ _ _ _ _ _ _ _ _ _ ⟨r', H', S, P⟩
set_option maxHeartbeats 4000000 in
theorem lt_c20 {xs : Nat → Int32} {L : Nat} {y3 : Int32} (G : GD xs L y3) {se : Nat → Int32} {bl : Int32} {na un ma fi vo ba wr pc : Nat → Int32} {pl ho hz : Int32} {sv st mh : Nat → Int32} {mr : Int32} {ms mi mp : Nat → Int32} {ml : Int32} {hs ss : Nat → TV} (R : REL se bl na un ma fi vo ba wr pc pl ho hz sv st mh mr ms mi mp ml hs ss) {J : (Nat → Int32) → (Nat → Int32) → (Nat → Int32) → (Nat → TV) → Option Int32} (hJ : ∀ z0 z1 z2 z3, REL se bl na un ma fi vo ba wr pc pl ho hz z0 st mh mr z1 z2 mp ml hs z3 → J z0 z1 z2 z3 = some 1) : den_law_c20 xs L y3 se bl na un ma fi vo ba wr sv st ms mi ss J = some 1 := by
  obtain ⟨r, H, S, P⟩ := R
  obtain ⟨v, sv', ss', ms', mi', e1, e2, S'⟩ := k_save r S (xs (y3 + (1 : Int32)).toNatClampNeg)
  unfold den_law_c20
  rw [gd_t G.1, e1, bnd_s, gd_t G.1, e2, bnd_s, if_pos rfl]
  exact hJ _ _ _ _ ⟨r, H, S', P⟩
set_option maxHeartbeats 4000000 in
theorem lt_c21 {xs : Nat → Int32} {L : Nat} {y3 : Int32} (G : GD xs L y3) {se : Nat → Int32} {bl : Int32} {na un ma fi vo ba wr pc : Nat → Int32} {pl ho hz : Int32} {sv st mh : Nat → Int32} {mr : Int32} {ms mi mp : Nat → Int32} {ml : Int32} {hs ss : Nat → TV} (R : REL se bl na un ma fi vo ba wr pc pl ho hz sv st mh mr ms mi mp ml hs ss) {J : (Nat → Int32) → Int32 → (Nat → Int32) → (Nat → Int32) → (Nat → Int32) → (Nat → Int32) → (Nat → Int32) → (Nat → Int32) → (Nat → Int32) → Int32 → Int32 → (Nat → Int32) → (Nat → Int32) → Int32 → (Nat → TV) → Option Int32} (hJ : ∀ z0 z1 z2 z3 z4 z5 z6 z7 z8 z9 z10 z11 z12 z13 z14, REL z0 z1 z2 z3 z4 z5 z6 z7 z8 pc pl z9 z10 sv z11 z12 z13 ms mi mp ml z14 ss → J z0 z1 z2 z3 z4 z5 z6 z7 z8 z9 z10 z11 z12 z13 z14 = some 1) : den_law_c21 xs L y3 se bl na un ma fi vo ba wr ho hz sv st mh mr ms mi hs ss J = some 1 := by
  obtain ⟨r, H, S, P⟩ := R
  obtain ⟨v, t, a, b, c, st', h', m', e1, e2, r', H'⟩ := k_restore r H S (xs (y3 + (1 : Int32)).toNatClampNeg)
  unfold den_law_c21
  rw [gd_t G.1, e1, bnd_s, gd_t G.1, e2, bnd_s, if_pos rfl]
  exact hJ _ _ _ _ _ _ _ _ _ _ _ _ _ _ _ ⟨r', H', S, P⟩
