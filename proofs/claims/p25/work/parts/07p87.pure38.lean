theorem k_carryOut {se na un ma fi vo ba wr st : Nat → Int32} {bl : Int32} {ho hz mr : Int32} {hs : Nat → TV} {mh : Nat → Int32} (r : RT se bl na un ma fi vo ba wr st) (H : RHx ho hz hs mh mr) {pc mp : Nat → Int32} {pl ml : Int32} (P : PD pc mp pl ml) (a0 k0 n0 t0 v0 u0 m0 : Int32) (b0 : Int64) (g0 a1 l0 hu0 : Int32) (nu : Nat → Int32) (nm0 : Int32) (fd : Nat → Int32) :
    ∃ v, ∃ (t : TV), ∃ pl' p K N T V U M B G a b c st' h' m' ml' fd' p2 L hu nu' nm', den_X6_carryOut se bl na un ma fi vo ba wr pc pl a0 k0 n0 t0 v0 u0 m0 b0 g0 ho hz hs = some (v, t.2.1, t.2.2.1, t.2.2.2.1, t.2.2.2.2.1, t.2.2.2.2.2.1, t.2.2.2.2.2.2.1, t.2.2.2.2.2.2.2.1, t.2.2.2.2.2.2.2.2, pl', p, K, N, T, V, U, M, B, G, a, b, c) ∧ den_X7_carryOut st mh mr mp ml fd a1 l0 hu0 nu nm0 = some (v, st', h', m', ml', fd', p2, L, hu, nu', nm') ∧ t.1 = se ∧ RTv t st' ∧ RHx a b c h' m' ∧ PD pc mp pl' ml' := by
  obtain ⟨len, e1, e2, hl, hP⟩ := P
  subst e1; subst e2
  obtain ⟨v, p, K, N, T, V, U, M, B, G, p2, L, hu, nu', nm', f1, f2⟩ := fault_L hP hl 81 FU FU 0 0 k0 n0 t0 v0 u0 m0 b0 g0 l0 hu0 nu nm0 (by omega) (by rw [FU_eq]; omega) (by rw [FU_eq]; omega) (by omega) (by omega)
  have f3 := f1
  rw [show nI 0 = (0 : Int32) from rfl] at f1 f2
  unfold den_X6_carryOut den_X2_findFault den_X7_carryOut den_X7_findFault
  rw [f1, f2, bnd_s, bnd_s]
  by_cases c : v = -6
  · subst c
    obtain ⟨a, b, c, h', m', x1, x2, x3⟩ := rec_x r H
    obtain ⟨w, t, p', K', N', T', V', U', M', B', G', st', fd', p2', L', hu', nu'', nm'', y1, y2, y3, y4⟩ := carry_L hP hl se (a, b, c) 81 FU FU FU 0 0 k0 n0 t0 v0 u0 m0 b0 g0 K N T V U M B G L hu nu' nm' 0 bl na un ma fi vo ba wr st fd _ (by omega) (by rw [FU_eq]; omega) (by rw [FU_eq]; omega) (by omega) (by omega) f3 r
    rw [show nI 0 = (0 : Int32) from rfl] at y1 y2
    rw [if_pos rfl, if_pos rfl, x1, x2, bnd_s, bnd_s, y1, y2, bnd_s]
    exact ⟨w, t, 0, p', K', N', T', V', U', M', B', G', a, b, c, st', h', m', 0, fd', p2', L', hu', nu'', nm'', rfl, rfl, y3, y4, x3, 0, rfl, rfl, by omega, fun j hj => by omega⟩
  · rw [if_neg c, if_neg c]
    exact ⟨-3, (se, bl, na, un, ma, fi, vo, ba, wr), nI len, p, K, N, T, V, U, M, B, G, ho, hz, hs, st, mh, mr, nI len, fd, p2, L, hu, nu', nm', rfl, rfl, rfl, r, H, len, rfl, rfl, hl, hP⟩
