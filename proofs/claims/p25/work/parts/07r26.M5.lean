/-! p25: the act of writing a block -/
theorem a_write {T : TV} {Y : HV} {st mh : Nat → Int32} {mr : Int32} (r : RTv T st) (H : RHx Y.1 Y.2.1 Y.2.2 mh mr) (hn : nB st < 16) {a m : Nat} (ha : a ≤ 99) (hm1 : 1 ≤ m) (hm : m ≤ 7) {u : Int32} (hu : u = -6 ∨ ∃ k, k < nB st ∧ u = nI k) (x : Int64) : ∃ (T' : TV) (Y' : HV) (s3 mh' : Nat → Int32) (mr' : Int32), wd_write T Y (nI a) u (nI m) x = some (nI (nB st), T', Y') ∧ RTv T' s3 ∧ W3 st s3 (nB st) (FF st (nB st)) (2 * (4 + 9 * (m + 1)) + 2) m (uN x) (nI a) u ∧ RHx Y'.1 Y'.2.1 Y'.2.2 mh' mr' := by
  have w := r.1
  obtain ⟨v, t, x1, x2, x3, st', h', m', fd', e1, e2, et, r', H'⟩ := k_write r H (fun _ => 0) (nI a) u (nI m) x
  obtain ⟨a2, b2, c2, h2, m2, y1, y2, y3⟩ := rec_x r H
  have ew : den_X7_whyNotWritten st (nI a) u (nI m) = some 0 := by
    have hJ : (bnd (den_X7_within (nI a) (0 : Int32) (99 : Int32)) (fun q3 => if q3 = 0 then (some (-2 : Int32)) else (bnd (den_X7_within (nI m) (1 : Int32) (7 : Int32)) (fun q5 => if q5 = 0 then (some (-2 : Int32)) else (if (st 3) = (16 : Int32) then (some (-4 : Int32)) else (some (0 : Int32))))))) = some 0 := by
      rw [m_within, bnd_s, if_neg (nI_pos (by omega)), if_neg (show ¬ (99 : Int32) < nI a from nI_nlt (b := a) (a := 99) ha (by omega)), if_neg (show ¬ (1 : Int32) = 0 by decide), m_within, bnd_s, if_neg (show ¬ nI m < (1 : Int32) from nI_nlt (b := 1) (a := m) hm1 (by omega)), if_neg (show ¬ (7 : Int32) < nI m from nI_nlt (b := m) (a := 7) hm (by omega)), if_neg (show ¬ (1 : Int32) = 0 by decide), w.n, if_neg (show ¬ nI (nB st) = (16 : Int32) from fun z => by have := (nI_eq (b := 16) (by omega) (by omega)).mp z; omega)]
    unfold den_X7_whyNotWritten
    rw [m_isB w, bnd_s, nm_d]
    rcases hu with e | ⟨k, hk, e⟩
    · subst e
      rw [if_neg (show ¬ isB (nB st) (-6) = true by unfold isB; rw [decide_eq_false (show ¬ ¬ (-6 : Int32) < 0 by decide), Bool.false_and]; decide), if_pos rfl, if_pos rfl]
      exact hJ
    · subst e
      rw [if_pos (isB_t hk (by omega)), if_neg (show ¬ (1 : Int32) = 0 by decide)]
      exact hJ
  have ef := m_found_L (x := x) hm (fun _ => 0) m FU 0 (by omega) (by rw [FU_eq]; omega)
  rw [fl_0, show nI 0 = (0 : Int32) from rfl] at ef
  obtain ⟨s3, z1, z2⟩ := m_writes w hn hm (N := uN x) (fd := fl (fun _ => 0) 0 m (fun k => nI (bN (uN x) k))) (fun k hk => by
    have := fl_in (f := fun _ => (0 : Int32)) (A := 0) (n := m) (g := fun k => nI (bN (uN x) k)) hk
    rw [Nat.zero_add] at this
    exact this) (nI a) u
  have e : den_X7_write st mh mr (fun _ => 0) (nI a) u (nI m) x = some (nI (nB st), s3, h2, m2, fl (fun _ => 0) 0 m (fun k => nI (bN (uN x) k))) := by
    unfold den_X7_write
    rw [ew, bnd_s, if_pos (show (0 : Int32) ≤ 0 by decide), y2, bnd_s, ef, bnd_s, z1, bnd_s]
  rw [e] at e2
  cases e2
  refine ⟨t, (x1, x2, x3), st', h', m', ?_, r', z2, H'⟩
  unfold wd_write
  rw [e1, bnd_s, ← et]
theorem LBb_bl {bl bl2 st : Nat → Int32} {b : Nat} (h : ∀ j, j < 8 * b + 8 → bl2 j = bl j) (l : LBb bl st b) : LBb bl2 st b := by
  obtain ⟨a0, a1, a2, a3, a4, a5⟩ := l
  refine ⟨a0, by rw [h _ (by omega)]; exact a1, by rw [h _ (by omega)]; exact a2, by rw [h _ (by omega)]; exact a3, by rw [h _ (by omega)]; exact a4, fun k hk => ?_⟩
  rw [h _ (by omega)]
  exact a5 k hk
theorem bytesW_L {q bl : Nat → Int32} {n m0 : Nat} (hn : n < 5) (hm : m0 < 3) (g3 : q 3 = nI n) (z : Int64) : ∀ (d fu k : Nat), k + d = 3 → d < fu →
    den_L_law_L203 q (nI m0) z fu (nI k) (fl bl (8 * n + 4) k (fun k => if k < m0 + 1 then nI (bN (uN z) k) else 0)) = some (fl bl (8 * n + 4) 3 (fun k => if k < m0 + 1 then nI (bN (uN z) k) else 0)) := by
  intro d
  induction d with
  | zero =>
    intro fu k hk hf
    cases fu with
    | zero => omega
    | succ fu =>
      have : k = 3 := by omega
      subst this
      rw [den_L_law_L203, if_pos (show (3 : Int32) ≤ nI 3 by decide)]
  | succ d ih =>
    intro fu k hk hf
    cases fu with
    | zero => omega
    | succ fu =>
      have hs := fl_s bl (8 * n + 4) k (fun k => if k < m0 + 1 then nI (bN (uN z) k) else 0)
      have ev : (if (1 : Int32) + nI m0 ≤ nI k then (some (0 : Int32)) else (some ((((z >>> ((((8 : Int32) * nI k)).toInt64 &&& 63))).toInt32) &&& (255 : Int32)))) = some (if k < m0 + 1 then nI (bN (uN z) k) else 0) := by
        rw [show (1 : Int32) + nI m0 = nI (m0 + 1) by rw [li1, nI_add, Nat.add_comm], show (8 : Int32) * nI k = nI (8 * k) by rw [li8, pk_mul], sar8 z (show k < 8 by omega)]
        by_cases c : k < m0 + 1
        · rw [if_neg (nI_ge c (by omega)), if_pos c]; rfl
        · rw [if_pos (nI_le (by omega) (by omega)), if_neg c]
      rw [den_L_law_L203, if_neg (show ¬ (3 : Int32) ≤ nI k from nI_ge (b := 3) (by omega) (by omega)), ev, bnd_s, g3, show (8 : Int32) * nI n + (4 : Int32) + nI k = nI (8 * n + 4 + k) by rw [li8, pk_mul, li4, nI_add, nI_add], gdI (by omega) (by omega), nI_clamp (by omega), hs, show nI k + (1 : Int32) = nI (k + 1) by rw [li1, nI_add]]
      exact ih fu (k + 1) (by omega) (by omega)
theorem cellsW_L {q bl : Nat → Int32} {n F E a0 : Nat} {q118 : Int32} (hn : n < 5) (ha : a0 < 256) (hE : F + E ≤ 500) (g0 : q 0 = nI a0) (g3 : q 3 = nI n) (g4 : nI (F + E) = (q 4 + (2 : Int32) * q118) + (2 : Int32)) : ∀ (d fu k : Nat) (me : Nat → Int64), k + d = E → d < fu →
    ∃ me' : Nat → Int64, den_L_law_L275 q bl q118 fu (nI (F + k)) me = some me' ∧ ∀ c, mN me' c = if F + k ≤ c ∧ c < F + E then a0 else mN me c := by
  intro d
  induction d with
  | zero =>
    intro fu k me hk hf
    cases fu with
    | zero => omega
    | succ fu =>
      refine ⟨me, ?_, fun c => by rw [if_neg (by omega)]⟩
      rw [den_L_law_L275, g3, show (8 : Int32) * nI n + (11 : Int32) = nI (8 * n + 11) by rw [li8, pk_mul, show (11 : Int32) = nI 11 from rfl, nI_add], gdI (by omega) (by omega), pk_us, ← g4, if_pos (nI_le (by omega) (by omega))]
  | succ d ih =>
    intro fu k me hk hf
    cases fu with
    | zero => omega
    | succ fu =>
      obtain ⟨me', e, h⟩ := ih fu (k + 1) (vp_updL me ((F + k) / 8) (lyL (me ((F + k) / 8)) ((F + k) % 8) a0)) (by omega) (by omega)
      refine ⟨me', ?_, fun c => ?_⟩
      · rw [den_L_law_L275, g3, show (8 : Int32) * nI n + (11 : Int32) = nI (8 * n + 11) by rw [li8, pk_mul, show (11 : Int32) = nI 11 from rfl, nI_add], gdI (by omega) (by omega), pk_us, ← g4, if_neg (nI_ge (by omega) (by omega)), g0, l_lay0 me (by omega), bnd_s, show nI (F + k) + (1 : Int32) = nI (F + (k + 1)) by rw [li1, nI_add, Nat.add_assoc]]
        exact e
      · rw [h c, mN_lay me ha]
        by_cases c1 : c = F + k
        · rw [if_neg (by omega), if_pos c1, if_pos (by omega)]
        · rw [if_neg c1]
          by_cases c2 : F + (k + 1) ≤ c ∧ c < F + E
          · rw [if_pos c2, if_pos (by omega)]
          · rw [if_neg c2, if_neg (by omega)]
theorem write_INV {T' : TV} {Y' : HV} {q bl bl3 st s3 mh' : Nat → Int32} {me me' : Nat → Int64} {mr' : Int32} {n F E m N a0 : Nat} {p1 p2 : Int32} (w : WF st) (L : LB bl me st) (Q : QI q st) (hn : n = nB st) (hF : F = FF st (nB st)) (hn5 : n < 5) (hm : m ≤ 3) (hE : E = 2 * (4 + 9 * (m + 1)) + 2) (g0 : q 0 = nI a0) (ha : a0 < 256) (r' : RTv T' s3) (W : W3 st s3 n F E m N p1 p2) (H' : RHx Y'.1 Y'.2.1 Y'.2.2 mh' mr')
    (hme : ∀ c, mN me' c = if F ≤ c ∧ c < F + E then a0 else mN me c) (b0 : ∀ j, j < 8 * n → bl3 j = bl j) (b1 : bl3 (8 * n) = p1) (b2 : bl3 (8 * n + 1) = p2) (b3 : bl3 (8 * n + 2) = nI m) (b4 : bl3 (8 * n + 3) = nI F) (b5 : ∀ k, k < 3 → bl3 (8 * n + 4 + k) = if k < m then nI (bN N k) else 0) : INV (upd (upd q 4 (nI (F + E))) 3 (nI (n + 1))) bl3 me' T' Y' := by
  obtain ⟨g00, g1, g2, g3, g4⟩ := Q
  obtain ⟨w0, w3, wa, wn0, wn1, wn2, wy, wc, wc2⟩ := W
  have hnB : nB s3 = n + 1 := by unfold nB; rw [w3, nI_clamp (by omega)]
  have hmB : mB s3 n = m := by unfold mB; rw [wn2, nI_clamp (by omega)]
  have hFn : FF s3 n = F := by rw [ag_FF wa (Nat.le_refl _), hF, hn]
  have hF1 : FF s3 (n + 1) = F + E := by rw [FF_s, hFn]; unfold tl; rw [hmB, hE]
  refine ⟨s3, mh', mr', r', ⟨by rw [hnB]; omega, fun b hb => ?_, fun c hc => ?_⟩, ⟨?_, ?_, ?_, ?_, ?_⟩, H'⟩
  · rw [hnB] at hb
    by_cases e : b = n
    · subst e
      refine ⟨by rw [hmB]; exact hm, by rw [b1]; exact wn0.symm, by rw [b2]; exact wn1.symm, by rw [b3, hmB], by rw [b4, hFn], fun k hk => ?_⟩
      have hy : yB s3 b k = if k < m then bN N k else 0 := by
        unfold yB
        rw [wy k (by omega)]
        have := bN_lt N k
        by_cases c : k < m
        · rw [if_pos c, if_pos c, nI_clamp (by omega)]
        · rw [if_neg c, if_neg c]; rfl
      rw [hy, b5 k hk, hmB]
      by_cases c : k < m
      · rw [if_pos c, if_pos c]; exact ⟨rfl, fun z => by omega⟩
      · rw [if_neg c, if_neg c]; exact ⟨rfl, fun _ => rfl⟩
    · exact ag_LBb wa (by omega) (LBb_bl (fun j hj => b0 j (by omega)) (L.2.1 b (by omega)))
  · rw [hnB, hF1] at hc
    rw [hme c]
    by_cases c1 : c < F
    · rw [if_neg (by omega), cB_of (wc c c1)]; exact L.2.2 c (by omega)
    · rw [if_pos (by omega)]
      unfold cB
      rw [wc2 c (by omega) hc, ← g00, g0, nI_clamp (by omega)]
  · rw [pk_un (by omega), pk_un (by omega), w0 0 (by omega)]; exact g00
  · rw [pk_un (by omega), pk_un (by omega), w0 1 (by omega)]; exact g1
  · rw [pk_un (by omega), pk_un (by omega), w0 2 (by omega)]; exact g2
  · rw [pk_us, hnB]
  · rw [pk_un (by omega), pk_us, hnB, hF1]
theorem write_act {T : TV} {Y : HV} {q bl st mh : Nat → Int32} {me : Nat → Int64} {mr : Int32} (r : RTv T st) (L : LB bl me st) (Q : QI q st) (H : RHx Y.1 Y.2.1 Y.2.2 mh mr) (hn5 : nB st < 5) (q3 q4 : Int32) :
    ∃ (q' bl' : Nat → Int32) (me' : Nat → Int64) (T' : TV) (Y' : HV), (bnd (den_L_low q4 (3 : Int32)) (fun q109 => nm ((((q4).toInt64) <<< (((20 : Int32)).toInt64 &&& 63)) ^^^ ((q3).toInt64)) (fun x110 => bnd (den_L_low (q3 >>> ((4 : Int32) &&& 31)) (100 : Int32)) (fun q111 => gd (inb ((8 : Int32) * (q 3)) 48) (bnd (if (q 3) = 0 then (some (-6 : Int32)) else (bnd (den_L_low (q3 >>> ((6 : Int32) &&& 31)) (3 : Int32)) (fun q136 => if q136 = 0 then (some (-6 : Int32)) else (bnd (den_L_low (q3 >>> ((5 : Int32) &&& 31)) (q 3)) (fun q138 => some q138))))) (fun q113 => gd (inb (((8 : Int32) * (q 3)) + (1 : Int32)) 48) (gd (inb (((8 : Int32) * (q 3)) + (2 : Int32)) 48) (gd (inb (((8 : Int32) * (q 3)) + (3 : Int32)) 48) (bnd (den_L_law_L203 q q109 x110 FU (0 : Int32) (upd (upd (upd (upd bl ((8 : Int32) * (q 3)).toNatClampNeg q111) (((8 : Int32) * (q 3)) + (1 : Int32)).toNatClampNeg q113) (((8 : Int32) * (q 3)) + (2 : Int32)).toNatClampNeg ((1 : Int32) + q109)) (((8 : Int32) * (q 3)) + (3 : Int32)).toNatClampNeg (q 4))) (fun q117 => bnd (den_L_size 48 q117 (q 3)) (fun q118 => gd (inb (((8 : Int32) * (q 3)) + (11 : Int32)) 48) (bnd (den_L_law_L275 q q117 q118 FU (q 4) me) (fun q120 => gd (inb (((8 : Int32) * (q 3)) + (11 : Int32)) 48) (gd (inb ((8 : Int32) * (q 3)) 48) (gd (inb (((8 : Int32) * (q 3)) + (1 : Int32)) 48) (bnd (wd_write T Y ((upd q117 (((8 : Int32) * (q 3)) + (11 : Int32)).toNatClampNeg (((q 4) + ((2 : Int32) * q118)) + (2 : Int32))) ((8 : Int32) * (q 3)).toNatClampNeg) ((upd q117 (((8 : Int32) * (q 3)) + (11 : Int32)).toNatClampNeg (((q 4) + ((2 : Int32) * q118)) + (2 : Int32))) (((8 : Int32) * (q 3)) + (1 : Int32)).toNatClampNeg) ((1 : Int32) + q109) x110) (fun q124 => if q124.1 = ((upd q 4 ((upd q117 (((8 : Int32) * (q 3)) + (11 : Int32)).toNatClampNeg (((q 4) + ((2 : Int32) * q118)) + (2 : Int32))) (((8 : Int32) * (q 3)) + (11 : Int32)).toNatClampNeg)) 3) then (some ((upd (upd q 4 ((upd q117 (((8 : Int32) * (q 3)) + (11 : Int32)).toNatClampNeg (((q 4) + ((2 : Int32) * q118)) + (2 : Int32))) (((8 : Int32) * (q 3)) + (11 : Int32)).toNatClampNeg)) 3 (((upd q 4 ((upd q117 (((8 : Int32) * (q 3)) + (11 : Int32)).toNatClampNeg (((q 4) + ((2 : Int32) * q118)) + (2 : Int32))) (((8 : Int32) * (q 3)) + (11 : Int32)).toNatClampNeg)) 3) + (1 : Int32))), (upd q117 (((8 : Int32) * (q 3)) + (11 : Int32)).toNatClampNeg (((q 4) + ((2 : Int32) * q118)) + (2 : Int32))), q120, q124.2.1, q124.2.2)) else (none)))))))))))))))))) = some (q', bl', me', T', Y') ∧ INV q' bl' me' T' Y' := by
  have w := r.1
  have hF := FF_82 L (Nat.le_refl (nB st))
  obtain ⟨a0, ha0, eq0⟩ := w.2.2.2.2.2.2.1
  have Q0 := Q
  obtain ⟨g0, g1, g2, g3, g4⟩ := Q
  obtain ⟨n, hn⟩ : ∃ n, n = nB st := ⟨_, rfl⟩
  obtain ⟨F, hFF⟩ : ∃ F, F = FF st (nB st) := ⟨_, rfl⟩
  rw [← hn] at hn5 g3
  rw [← hFF] at g4
  obtain ⟨m0, hm0, em⟩ := l_low q4 (n := 3) (by omega) (by omega)
  obtain ⟨a, ha, ea⟩ := l_low (q3 >>> ((4 : Int32) &&& 31)) (n := 100) (by omega) (by omega)
  obtain ⟨v, hv, ev⟩ := l_low (q3 >>> ((6 : Int32) &&& 31)) (n := 3) (by omega) (by omega)
  rw [show nI 3 = (3 : Int32) from rfl] at em ev
  rw [show nI 100 = (100 : Int32) from rfl] at ea
  have hu : ∃ u : Int32, (if (q 3) = 0 then (some (-6 : Int32)) else (bnd (den_L_low (q3 >>> ((6 : Int32) &&& 31)) (3 : Int32)) (fun q136 => if q136 = 0 then (some (-6 : Int32)) else (bnd (den_L_low (q3 >>> ((5 : Int32) &&& 31)) (q 3)) (fun q138 => some q138))))) = some u ∧ (u = -6 ∨ ∃ k, k < nB st ∧ u = nI k) := by
    by_cases c : q 3 = 0
    · exact ⟨-6, by rw [if_pos c], Or.inl rfl⟩
    · rw [if_neg c, ev, bnd_s]
      by_cases c2 : nI v = (0 : Int32)
      · exact ⟨-6, by rw [if_pos c2], Or.inl rfl⟩
      · have hn0 : 0 < n := by
          rw [g3, nI_0iff (by omega)] at c; omega
        obtain ⟨k, hk, ek⟩ := l_low (q3 >>> ((5 : Int32) &&& 31)) hn0 (by omega)
        exact ⟨nI k, by rw [if_neg c2, g3, ek, bnd_s], Or.inr ⟨k, by omega, rfl⟩⟩
  obtain ⟨u, eu, hu⟩ := hu
  obtain ⟨z, hz⟩ : ∃ z : Int64, z = (((q4).toInt64) <<< (((20 : Int32)).toInt64 &&& 63)) ^^^ ((q3).toInt64) := ⟨_, rfl⟩
  obtain ⟨T', Y', s3, mh', mr', e1, r', W, H'⟩ := a_write r H (by omega) (a := a) (m := m0 + 1) (by omega) (by omega) (by omega) hu z
  obtain ⟨b0, hb0⟩ : ∃ b0 : Nat → Int32, b0 = upd (upd (upd (upd bl (8 * n) (nI a)) (8 * n + 1) u) (8 * n + 2) (nI (m0 + 1))) (8 * n + 3) (nI F) := ⟨_, rfl⟩
  obtain ⟨b2, hb2⟩ : ∃ b2 : Nat → Int32, b2 = fl b0 (8 * n + 4) 3 (fun k => if k < m0 + 1 then nI (bN (uN z) k) else 0) := ⟨_, rfl⟩
  have eb := bytesW_L (bl := b0) hn5 hm0 g3 z 3 FU 0 (by omega) (by rw [FU_eq]; omega)
  rw [fl_0, ← hb2, show nI 0 = (0 : Int32) from rfl] at eb
  have hb22 : b2 (8 * n + 2) = nI (m0 + 1) := by rw [hb2, fl_out (Or.inl (by omega)), hb0, pk_un (by omega), pk_us]
  have es : den_L_size 48 b2 (nI n) = some (nI (13 + 9 * (m0 + 1))) := by
    unfold den_L_size
    rw [li8, li2, pk_mul, nI_add, gdI (by omega) (by omega), nI_clamp (by omega), hb22, li13, li9, pk_mul, nI_add]
  obtain ⟨E, hE⟩ : ∃ E, E = 2 * (4 + 9 * (m0 + 1 + 1)) + 2 := ⟨_, rfl⟩
  have e4 : nI (F + E) = (q 4 + (2 : Int32) * nI (13 + 9 * (m0 + 1))) + (2 : Int32) := by
    rw [g4, li2, pk_mul, nI_add, nI_add, show F + E = F + 2 * (13 + 9 * (m0 + 1)) + 2 by omega]
  obtain ⟨me', ec, hme⟩ := cellsW_L (bl := b2) (F := F) (E := E) hn5 (show a0 < 256 by omega) (by omega) (g0.trans eq0) g3 e4 E FU 0 me (by omega) (by rw [FU_eq]; omega)
  rw [show F + 0 = F from rfl] at ec
  have hb3 : ∀ j, j < 8 * n + 7 → upd b2 (8 * n + 11) (nI (F + E)) j = b2 j := fun j hj => pk_un (by omega)
  have I := write_INV (bl3 := upd b2 (8 * n + 11) (nI (F + E))) w L Q0 hn hFF hn5 (show m0 + 1 ≤ 3 by omega) hE (g0.trans eq0) (show a0 < 256 by omega) r' (by rw [hn, hFF, hE]; exact W) H' hme
    (fun j hj => by rw [hb3 j (by omega), hb2, fl_out (Or.inl (by omega)), hb0, pk_un (by omega), pk_un (by omega), pk_un (by omega), pk_un (by omega)])
    (by rw [hb3 _ (by omega), hb2, fl_out (Or.inl (by omega)), hb0, pk_un (by omega), pk_un (by omega), pk_un (by omega), pk_us])
    (by rw [hb3 _ (by omega), hb2, fl_out (Or.inl (by omega)), hb0, pk_un (by omega), pk_un (by omega), pk_us])
    (by rw [hb3 _ (by omega), hb22])
    (by rw [hb3 _ (by omega), hb2, fl_out (Or.inl (by omega)), hb0, pk_us])
    (fun k hk => by rw [hb3 _ (by omega), hb2, fl_in hk])
  refine ⟨_, _, _, _, _, ?_, I⟩
  have h11 : (11 : Int32) = nI 11 := rfl
  have hw1 : upd b2 (8 * n + 11) (nI (F + E)) (8 * n) = nI a := by rw [hb3 _ (by omega), hb2, fl_out (Or.inl (by omega)), hb0, pk_un (by omega), pk_un (by omega), pk_un (by omega), pk_us]
  have hw2 : upd b2 (8 * n + 11) (nI (F + E)) (8 * n + 1) = u := by rw [hb3 _ (by omega), hb2, fl_out (Or.inl (by omega)), hb0, pk_un (by omega), pk_un (by omega), pk_us]
  have hq3 : upd q 4 (nI (F + E)) 3 = nI n := by rw [pk_un (by omega), g3]
  rw [em, bnd_s, nm_d, ← hz, ea, bnd_s, eu, bnd_s, g3, g4, show (8 : Int32) * nI n = nI (8 * n) by rw [li8, pk_mul], show nI (8 * n) + (1 : Int32) = nI (8 * n + 1) by rw [li1, nI_add], show nI (8 * n) + (2 : Int32) = nI (8 * n + 2) by rw [li2, nI_add], show nI (8 * n) + (3 : Int32) = nI (8 * n + 3) by rw [li3, nI_add], show nI (8 * n) + (11 : Int32) = nI (8 * n + 11) by rw [h11, nI_add], show (1 : Int32) + nI m0 = nI (m0 + 1) by rw [li1, nI_add, Nat.add_comm], nI_clamp (show 8 * n < 2 ^ 31 by omega), nI_clamp (show 8 * n + 1 < 2 ^ 31 by omega), nI_clamp (show 8 * n + 2 < 2 ^ 31 by omega), nI_clamp (show 8 * n + 3 < 2 ^ 31 by omega), nI_clamp (show 8 * n + 11 < 2 ^ 31 by omega), ← hb0, gdI (by omega) (by omega), gdI (by omega) (by omega), gdI (by omega) (by omega), gdI (by omega) (by omega), eb, bnd_s, es, bnd_s, gdI (by omega) (by omega), ec, bnd_s, gdI (by omega) (by omega), gdI (by omega) (by omega), gdI (by omega) (by omega), ← g4, ← e4, hw1, hw2, pk_us, hq3, e1, bnd_s, if_pos (show nI (nB st) = nI n by rw [hn]), show nI n + (1 : Int32) = nI (n + 1) by rw [li1, nI_add]]
