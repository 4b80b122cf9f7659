/-! states kept: the reference's rows of 2628 numbers, the landed class's tapes -/
def mv (a : Nat → Int32) (f : Nat) (c : Nat → Int32) (t n : Nat) : Nat → Int32 := fun j => if t ≤ j ∧ j < t + n then a (f + (j - t)) else c j
theorem m_moves_L (a c : Nat → Int32) {f t n0 n1 : Nat} (h0 : f + 2628 ≤ n0) (h1 : t + 2628 ≤ n1) (hn0 : n0 ≤ 20000) (hn1 : n1 ≤ 20000) : ∀ (d fu k : Nat), k + d = 2628 → d < fu →
    den_X7_moves_L3 (nI f) (nI t) n0 n1 a fu (nI k) (mv a f c t k) = some (mv a f c t 2628) := by
  intro d
  induction d with
  | zero =>
    intro fu k hk hf
    cases fu with
    | zero => omega
    | succ fu =>
      have : k = 2628 := by omega
      subst this
      rw [den_X7_moves_L3, show (2628 : Int32) = nI 2628 from rfl, if_pos (nI_le (Nat.le_refl _) (by omega))]
  | succ d ih =>
    intro fu k hk hf
    cases fu with
    | zero => omega
    | succ fu =>
      rw [den_X7_moves_L3, show (2628 : Int32) = nI 2628 from rfl, if_neg (nI_ge (by omega) (by omega)), nI_add, nI_add, gdI (by omega) (by omega), gdI (by omega) (by omega), nI_clamp (by omega), nI_clamp (by omega), li1, nI_add]
      have e : upd (mv a f c t k) (t + k) (a (f + k)) = mv a f c t (k + 1) := by
        funext j
        unfold upd mv
        by_cases q : j = t + k
        · subst q; rw [if_pos rfl, if_pos (by omega)]; congr 1; omega
        · rw [if_neg q]
          by_cases q2 : t ≤ j ∧ j < t + k
          · rw [if_pos q2, if_pos (by omega)]
          · rw [if_neg q2, if_neg (by omega)]
      rw [e]
      exact ih fu (k + 1) (by omega) (by omega)
theorem mv_0 (a c : Nat → Int32) (f t : Nat) : mv a f c t 0 = c := by
  funext j; unfold mv; rw [if_neg (by omega)]
theorem m_moves (a c : Nat → Int32) {f t n0 n1 : Nat} (h0 : f + 2628 ≤ n0) (h1 : t + 2628 ≤ n1) (hn0 : n0 ≤ 20000) (hn1 : n1 ≤ 20000) : den_X7_moves n0 n1 a c (nI f) (nI t) = some (mv a f c t 2628) := by
  unfold den_X7_moves
  have := m_moves_L a c h0 h1 hn0 hn1 2628 FU 0 (by omega) (by rw [FU_eq]; omega)
  rw [mv_0, show nI 0 = (0 : Int32) from rfl] at this
  rw [this, bnd_s]
def sh (h : Nat → Int32) (n : Nat) : Nat → Int32 := fun j => if j < n then h (j + 2628) else h j
theorem m_shift_L (h : Nat → Int32) : ∀ (d fu k : Nat), k + d = 13140 → d < fu → den_X7_record_L11 fu (nI k) (sh h k) = some (sh h 13140) := by
  intro d
  induction d with
  | zero =>
    intro fu k hk hf
    cases fu with
    | zero => omega
    | succ fu =>
      have : k = 13140 := by omega
      subst this
      rw [den_X7_record_L11, show (13140 : Int32) = nI 13140 from rfl, if_pos (nI_le (Nat.le_refl _) (by omega))]
  | succ d ih =>
    intro fu k hk hf
    cases fu with
    | zero => omega
    | succ fu =>
      rw [den_X7_record_L11, show (13140 : Int32) = nI 13140 from rfl, if_neg (nI_ge (by omega) (by omega)), show (2628 : Int32) = nI 2628 from rfl, nI_add, gdI (by omega) (by omega), gdI (by omega) (by omega), nI_clamp (by omega), nI_clamp (by omega), li1, nI_add]
      have e : upd (sh h k) k (sh h k (k + 2628)) = sh h (k + 1) := by
        funext j
        unfold upd sh
        by_cases q : j = k
        · subst q; rw [if_pos rfl, if_neg (by omega), if_pos (by omega)]
        · rw [if_neg q]
          by_cases q2 : j < k
          · rw [if_pos q2, if_pos (by omega)]
          · rw [if_neg q2, if_neg (by omega)]
      rw [e]
      exact ih fu (k + 1) (by omega) (by omega)
def hi1 (h : Nat → Int32) (z : Nat) : Nat → Int32 := if z = 6 then sh h 13140 else h
def z1 (z : Nat) : Nat := if z = 6 then 5 else z
theorem z1_5 {z : Nat} (hz : z ≤ 6) : z1 z ≤ 5 := by unfold z1; split <;> omega
theorem m_record (st h : Nat → Int32) {z : Nat} (hz : z ≤ 6) : den_X7_record st h (nI z) = some (mv st 0 (hi1 h z) (z1 z * 2628) 2628, nI (z1 z + 1)) := by
  have h5 := z1_5 hz
  unfold den_X7_record
  have e : (if nI z = (6 : Int32) then bnd (den_X7_record_L11 FU (0 : Int32) h) (fun q4 => some (q4, nI z - (1 : Int32))) else some (h, nI z)) = some (hi1 h z, nI (z1 z)) := by
    unfold hi1 z1
    by_cases c : z = 6
    · subst c
      have := m_shift_L h 13140 FU 0 (by omega) (by rw [FU_eq]; omega)
      rw [show sh h 0 = h by funext j; unfold sh; rw [if_neg (by omega)], show nI 0 = (0 : Int32) from rfl] at this
      rw [if_pos (show nI 6 = (6 : Int32) from rfl), this, bnd_s, if_pos rfl, if_pos rfl]; rfl
    · rw [if_neg (by rw [li6, nI_eq (by omega) (by omega)]; exact c), if_neg c, if_neg c]
  rw [e, bnd_s, show (2628 : Int32) = nI 2628 from rfl, pk_mul, show (0 : Int32) = nI 0 from rfl, m_moves st _ (by omega) (by omega) (by omega) (by omega), bnd_s, li1, nI_add]
/-! the same state in another row -/
def agree (st s2 : Nat → Int32) : Prop := ∀ j, j < 2628 → s2 j = st j
def agN (n : Nat) (st s2 : Nat → Int32) : Prop := ∀ j, 4 ≤ j → j < 4 + 10 * n → s2 j = st j
theorem agree.N {st s2 : Nat → Int32} (h : agree st s2) : agN 16 st s2 := fun j _ h2 => h j (by omega)
theorem nB_of {st s2 : Nat → Int32} (h : s2 3 = st 3) : nB s2 = nB st := by unfold nB; rw [h]
theorem ag_nB {st s2 : Nat → Int32} (h : agree st s2) : nB s2 = nB st := nB_of (h 3 (by omega))
theorem ag_mB {n : Nat} {st s2 : Nat → Int32} (h : agN n st s2) {b : Nat} (hb : b < n) : mB s2 b = mB st b := by unfold mB; rw [h _ (by omega) (by omega)]
theorem ag_yB {n : Nat} {st s2 : Nat → Int32} (h : agN n st s2) {b k : Nat} (hb : b < n) (hk : k < 7) : yB s2 b k = yB st b k := by unfold yB; rw [h _ (by omega) (by omega)]
theorem cB_of {st s2 : Nat → Int32} {c : Nat} (h : s2 (164 + c) = st (164 + c)) : cB s2 c = cB st c := by unfold cB; rw [h]
theorem ag_cB {st s2 : Nat → Int32} (h : agree st s2) {c : Nat} (hc : c < 2464) : cB s2 c = cB st c := cB_of (h _ (by omega))
theorem ag_tl {n : Nat} {st s2 : Nat → Int32} (h : agN n st s2) {b : Nat} (hb : b < n) : tl s2 b = tl st b := by unfold tl; rw [ag_mB h hb]
theorem ag_FF {n : Nat} {st s2 : Nat → Int32} (h : agN n st s2) : ∀ {b : Nat}, b ≤ n → FF s2 b = FF st b
  | 0, _ => rfl
  | b + 1, hb => by rw [FF_s, FF_s, ag_FF h (by omega), ag_tl h (by omega)]
theorem ag_bs {n : Nat} {st s2 : Nat → Int32} (h : agN n st s2) {b : Nat} (hb : b < n) (t : Nat) : bs s2 b t = bs st b t := by unfold bs; rw [ag_FF h (by omega), ag_tl h hb]
theorem ag_sy {n : Nat} {st s2 : Nat → Int32} (h : agN n st s2) {b : Nat} (hb : b < n) : ∀ {k : Nat}, k ≤ 7 → sy s2 b k = sy st b k
  | 0, _ => rfl
  | k + 1, hk => by
    show sy s2 b k + yB s2 b k = sy st b k + yB st b k
    rw [ag_sy h hb (by omega), ag_yB h hb (by omega)]
theorem ag_byt {n : Nat} {st s2 : Nat → Int32} (h : agN n st s2) {b k : Nat} (hb : b < n) (hm : mB st b ≤ 7) (hk : k ≤ mB st b) : byt s2 b k = byt st b k := by
  unfold byt
  rw [ag_mB h hb]
  by_cases e : k = mB st b
  · rw [if_pos e, if_pos e, ag_sy h hb hm]
  · rw [if_neg e, if_neg e, ag_yB h hb (by omega)]
theorem ag_wb {n : Nat} {st s2 : Nat → Int32} (h : agN n st s2) {b i : Nat} (hb : b < n) (hm : mB st b ≤ 7) (hi : i / 9 ≤ mB st b) : wb s2 b i = wb st b i := by
  unfold wb; rw [ag_byt h hb hm hi]
theorem ag_WFb {n : Nat} {st s2 : Nat → Int32} (h : agN n st s2) {b : Nat} (hb : b < n) (w : WFb st b) : WFb s2 b := by
  have hm := ag_mB h hb
  refine ⟨by rw [hm, h _ (by omega) (by omega)]; exact w.1, by rw [hm]; exact w.2.1, by rw [hm]; exact w.2.2.1, by rw [h _ (by omega) (by omega)]; exact w.2.2.2.1, fun k hk => ?_⟩
  rw [ag_yB h hb hk, h _ (by omega) (by omega)]; exact w.2.2.2.2 k hk
theorem ag_WF {st s2 : Nat → Int32} (h : agree st s2) (w : WF st) : WF s2 := by
  have h16 := w.n16
  have hn := ag_nB h
  refine ⟨by rw [hn, h 3 (by omega)]; exact w.n, by rw [hn]; exact h16, fun b hb => ?_, fun c hc => ?_, by unfold lB; rw [h 1 (by omega)]; exact w.l.1, by unfold lB; rw [h 1 (by omega)]; exact w.l.2, ?_, ?_⟩
  · rw [hn] at hb
    exact ag_WFb h.N (by omega) (w.2.2.1 b hb)
  · rw [hn, ag_FF h.N h16] at hc
    have h2 := FF_2464 w (Nat.le_refl _)
    rw [ag_cB h (by omega), h _ (by omega)]; exact w.c hc
  · rw [h 0 (by omega)]; exact w.2.2.2.2.2.2.1
  · rw [h 2 (by omega)]; exact w.2.2.2.2.2.2.2
theorem ag_RT {se na un ma fi vo ba wr st s2 : Nat → Int32} {bl : Int32} (h : agree st s2) (r : RT se bl na un ma fi vo ba wr st) : RT se bl na un ma fi vo ba wr s2 := by
  obtain ⟨w, hs, hb, hn, hf, hc, hw⟩ := r
  have h16 := w.n16
  have hnB := ag_nB h
  have hF := ag_FF h.N h16
  have h2 := FF_2464 w (Nat.le_refl _)
  refine ⟨ag_WF h w, ⟨by rw [h 0 (by omega)]; exact hs.1, by rw [h 1 (by omega)]; exact hs.2.1, by rw [h 2 (by omega)]; exact hs.2.2⟩, by rw [h 3 (by omega)]; exact hb, fun b hb2 => ?_, fun b hb2 => ?_, fun c hc2 => ?_, fun b t p hb2 ht h4 hp => ?_⟩
  · rw [hnB] at hb2
    rw [ag_mB h.N (by omega), h _ (by omega), h _ (by omega)]; exact hn b hb2
  · rw [hnB] at hb2
    rw [ag_FF h.N (by omega)]; exact hf b hb2
  · rw [hnB, hF] at hc2
    rw [ag_cB h (by omega)]; exact hc c hc2
  · rw [hnB] at hb2
    have hm := w.m7 hb2
    rw [ag_tl h.N (by omega)] at hp
    rw [ag_bs h.N (by omega), ag_wb h.N (by omega) hm (by unfold tl at hp; omega)]; exact hw b t p hb2 ht h4 hp
/-! a tape copied -/
def RTv (v : TV) (st : Nat → Int32) : Prop := RT v.1 v.2.1 v.2.2.1 v.2.2.2.1 v.2.2.2.2.1 v.2.2.2.2.2.1 v.2.2.2.2.2.2.1 v.2.2.2.2.2.2.2.1 v.2.2.2.2.2.2.2.2 st
theorem cpy0 {f g : Nat → Int32} {n j : Nat} (h : j < n) : va_cpy f g 0 0 n j = f j := by
  unfold va_cpy; rw [if_pos (by omega)]; congr 1; omega
theorem c_copy {se na un ma fi vo ba wr st : Nat → Int32} {bl : Int32} (r : RT se bl na un ma fi vo ba wr st) (a1 : Nat → Int32) (a2 : Int32) (a3 a4 a5 a6 a7 a8 a9 : Nat → Int32) :
    ∃ v : TV, den_X4_copyFrom a1 a2 a3 a4 a5 a6 a7 a8 a9 se bl na un ma fi vo ba wr = some v ∧ RTv v st := by
  obtain ⟨w, hs, hb, hn, hf, hc, hw⟩ := r
  have h16 := w.n16
  have h2 := FF_2464 w (Nat.le_refl _)
  have e : den_X4_cells bl (va_cpy fi a6 0 0 17) = some (nI (FF st (nB st))) := by
    unfold den_X4_cells
    rw [hb, w.n, gdI (by omega) (by omega), nI_clamp (by omega), cpy0 (by omega), hf _ (Nat.le_refl _)]
  have hg : cpb (nI (FF st (nB st))) 2464 = true := by
    unfold cpb
    rw [nI_clamp (by omega), Bool.and_eq_true]
    exact ⟨decide_eq_true (nI_pos (by omega)), decide_eq_true h2⟩
  have hm1 : (if (2464 : Int32) < nI (FF st (nB st)) then (2464 : Int32) else nI (FF st (nB st))) = nI (FF st (nB st)) := if_neg (show ¬ (2464 : Int32) < nI (FF st (nB st)) from nI_nlt (a := 2464) (b := FF st (nB st)) (by omega) (by omega))
  have hm2 : (if (0 : Int32) < nI (FF st (nB st)) then nI (FF st (nB st)) else (0 : Int32)) = nI (FF st (nB st)) := by
    by_cases c : FF st (nB st) = 0
    · rw [c]; rfl
    · exact if_pos (nI_lt (a := 0) (by omega) (by omega))
  unfold den_X4_copyFrom
  rw [e, bnd_s, nm_d, hm1, nm_d, hm2, gd_t hg, gd_t hg, gd_t hg, nI_clamp (by omega)]
  refine ⟨_, rfl, w, ⟨?_, ?_, ?_⟩, hb, fun b hb2 => ⟨?_, ?_, ?_⟩, fun b hb2 => ?_, fun c hc2 => ⟨?_, ?_⟩, fun b t p hb2 ht h4 hp => ?_⟩
  · show va_cpy se a1 0 0 3 0 = _; rw [cpy0 (by omega)]; exact hs.1
  · show va_cpy se a1 0 0 3 1 = _; rw [cpy0 (by omega)]; exact hs.2.1
  · show va_cpy se a1 0 0 3 2 = _; rw [cpy0 (by omega)]; exact hs.2.2
  · show va_cpy na a3 0 0 16 b = _; rw [cpy0 (by omega)]; exact (hn b hb2).1
  · show va_cpy un a4 0 0 16 b = _; rw [cpy0 (by omega)]; exact (hn b hb2).2.1
  · show va_cpy ma a5 0 0 16 b = _; rw [cpy0 (by omega)]; exact (hn b hb2).2.2
  · show va_cpy fi a6 0 0 17 b = _; rw [cpy0 (by omega)]; exact hf b hb2
  · show va_cpy vo a7 0 0 _ c = _; rw [cpy0 hc2]; exact (hc c hc2).1
  · show va_cpy ba a8 0 0 _ c = _; rw [cpy0 hc2]; exact (hc c hc2).2
  · show va_cpy wr a9 0 0 _ (bs st b t + p) = _; rw [cpy0 (cell_in hb2 ht hp)]; exact hw b t p hb2 ht h4 hp
/-! the history -/
def RH (o z : Nat) (ss : Nat → TV) (h : Nat → Int32) : Prop := o < 6 ∧ z ≤ 6 ∧ ∀ i, i < z → RTv (ss ((o + i) % 6)) (fun j => h (i * 2628 + j))
theorem mod6 (n : Nat) (hn : n < 2 ^ 31) : nI n - nI n / (6 : Int32) * (6 : Int32) = nI (n % 6) := by rw [li6, pk_rem hn (by omega) (by omega)]
theorem fm6 {n : Nat} (h : n ≤ 12) : den_J9_floorMod_7cf53 (nI n) (6 : Int32) = some (nI (n % 6)) := by
  have a : ∀ k : Fin 13, den_J9_floorMod_7cf53 (nI k.1) (6 : Int32) = some (nI (k.1 % 6)) := by decide +kernel
  exact a ⟨n, by omega⟩
theorem fm6' {n : Nat} (h : n < 6) : ∃ q, q < 6 ∧ den_J9_floorMod_7cf53 (nI n - (1 : Int32)) (6 : Int32) = some (nI q) := by
  have a : ∀ k : Fin 6, den_J9_floorMod_7cf53 (nI k.1 - (1 : Int32)) (6 : Int32) = some (nI ((k.1 + 5) % 6)) := by decide +kernel
  exact ⟨(n + 5) % 6, by omega, a ⟨n, h⟩⟩
theorem rh_record {se na un ma fi vo ba wr st : Nat → Int32} {bl : Int32} (r : RT se bl na un ma fi vo ba wr st) {o z : Nat} {ss : Nat → TV} {h : Nat → Int32} (H : RH o z ss h) :
    ∃ (o' z' : Nat) (ss' : Nat → TV) (h' : Nat → Int32), den_X1_keep (nI o) (nI z) se bl na un ma fi vo ba wr ss = some (nI o', nI z', ss') ∧ den_X7_record st h (nI z) = some (h', nI z') ∧ RH o' z' ss' h' := by
  obtain ⟨ho, hz, hR⟩ := H
  have h5 := z1_5 hz
  obtain ⟨v, ev, rv⟩ := c_copy r (ss ((o + z) % 6)).1 (ss ((o + z) % 6)).2.1 (ss ((o + z) % 6)).2.2.1 (ss ((o + z) % 6)).2.2.2.1 (ss ((o + z) % 6)).2.2.2.2.1 (ss ((o + z) % 6)).2.2.2.2.2.1 (ss ((o + z) % 6)).2.2.2.2.2.2.1 (ss ((o + z) % 6)).2.2.2.2.2.2.2.1 (ss ((o + z) % 6)).2.2.2.2.2.2.2.2
  have eX : den_X1_keep (nI o) (nI z) se bl na un ma fi vo ba wr ss = some (nI (if z = 6 then (o + 1) % 6 else o), nI (z1 z + 1), va_up ss ((o + z) % 6) v) := by
    unfold den_X1_keep
    rw [nI_add, fm6 (by omega), bnd_s, gdI (by omega) (by omega), nI_clamp (by omega), nm_d, ev, bnd_s]
    unfold z1
    by_cases c : z = 6
    · subst c
      rw [if_pos (show (6 : Int32) ≤ nI 6 by decide), li1, nI_add, mod6 _ (by omega), nm_d, if_pos rfl, if_pos rfl]
    · rw [if_neg (by rw [li6]; exact nI_ge (by omega) (by omega)), li1, nI_add, if_neg c, if_neg c]
  refine ⟨_, _, _, _, eX, m_record st h hz, by split <;> omega, by omega, fun i hi => ?_⟩
  by_cases c : z = 6
  · subst c
    rw [if_pos rfl]
    have hz1 : z1 6 = 5 := rfl
    rw [hz1] at hi ⊢
    by_cases ci : i = 5
    · subst ci
      rw [show ((o + 1) % 6 + 5) % 6 = (o + 6) % 6 by omega]
      unfold va_up; rw [if_pos rfl]
      refine ag_RT (fun j hj => ?_) rv
      show mv st 0 (hi1 h 6) (5 * 2628) 2628 (5 * 2628 + j) = st j
      unfold mv; rw [if_pos (by omega)]; exact congrArg st (by omega)
    · have hR2 := hR (i + 1) (by omega)
      rw [show ((o + 1) % 6 + i) % 6 = (o + (i + 1)) % 6 by omega]
      unfold va_up; rw [if_neg (by omega)]
      refine ag_RT (fun j hj => ?_) hR2
      show mv st 0 (hi1 h 6) (5 * 2628) 2628 (i * 2628 + j) = h ((i + 1) * 2628 + j)
      unfold mv hi1 sh
      rw [if_neg (by omega), if_pos rfl, if_pos (by omega)]; exact congrArg h (by omega)
  · rw [if_neg c]
    have hz1 : z1 z = z := by unfold z1; rw [if_neg c]
    have hh : hi1 h z = h := by unfold hi1; rw [if_neg c]
    rw [hz1] at hi ⊢
    rw [hh]
    by_cases ci : i = z
    · subst ci
      unfold va_up; rw [if_pos rfl]
      refine ag_RT (fun j hj => ?_) rv
      show mv st 0 h (i * 2628) 2628 (i * 2628 + j) = st j
      unfold mv; rw [if_pos (by omega)]; exact congrArg st (by omega)
    · have hR2 := hR i (by omega)
      unfold va_up; rw [if_neg (by omega)]
      refine ag_RT (fun j hj => ?_) hR2
      show mv st 0 h (z * 2628) 2628 (i * 2628 + j) = h (i * 2628 + j)
      unfold mv; rw [if_neg (by omega)]
