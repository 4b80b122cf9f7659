/-! p25: one cell -/
theorem vN_bit9 {st : Nat → Int32} (w : WF st) {b : Nat} (hb : b < nB st) {t k : Nat} (ht : t < 2) (hk : k ≤ mB st b) : ∀ {n i : Nat}, n ≤ 9 → i < n → vN st b t k n / 2 ^ i % 2 = tb st b t (4 + 9 * k + i)
  | 0, i, _, hi => by omega
  | n + 1, i, hn, hi => by
    have hv : vN st b t k n < 2 ^ n := by
      by_cases c : n ≤ 8
      · exact vN_lt w hb ht hk n c
      · omega
    have t2 := tb_lt w hb ht (p := 4 + 9 * k + n) (by unfold tl; omega)
    have e : vN st b t k (n + 1) = vN st b t k n + (if tb st b t (4 + 9 * k + n) = 1 then 2 ^ n else 0) := by
      show vN st b t k n + 2 ^ n * tb st b t (4 + 9 * k + n) = _
      by_cases c : tb st b t (4 + 9 * k + n) = 1
      · rw [if_pos c, c, Nat.mul_one]
      · rw [if_neg c, show tb st b t (4 + 9 * k + n) = 0 by omega, Nat.mul_zero]
    rw [e]
    by_cases c : i = n
    · subst c
      have h := top_bit hv (tb st b t (4 + 9 * k + i) = 1)
      have h2 : (vN st b t k i + (if tb st b t (4 + 9 * k + i) = 1 then 2 ^ i else 0)) / 2 ^ i % 2 < 2 := Nat.mod_lt _ (by omega)
      by_cases d : tb st b t (4 + 9 * k + i) = 1
      · rw [h.mpr d, d]
      · have : ¬ (vN st b t k i + (if tb st b t (4 + 9 * k + i) = 1 then 2 ^ i else 0)) / 2 ^ i % 2 = 1 := fun z => d (h.mp z)
        omega
    · rw [add_bit hv (by omega)]
      exact vN_bit9 w hb ht hk (by omega) (by omega)
theorem l_blk_L {q bl st : Nat → Int32} {me : Nat → Int64} (w : WF st) (L : LB bl me st) (h3 : q 3 = nI (nB st)) {b c : Nat} (hb : b < nB st) (h1 : FF st b ≤ c) (h2 : c < FF st (b + 1)) : ∀ (d fu k : Nat), k + d = b → d < fu → den_L_same_L539 q bl (nI c) fu (nI k) = some (nI b) := by
  have h5 := L.1
  have hF := FF_2464 w (b := b + 1) hb
  intro d
  induction d with
  | zero =>
    intro fu k hk hf
    cases fu with
    | zero => omega
    | succ fu =>
      have : k = b := by omega
      subst this
      rw [den_L_same_L539, h3, li1, nI_add]
      by_cases e : nB st ≤ k + 1
      · rw [if_pos (nI_le e (by omega))]
      · have hb2 := (L.2.1 (k + 1) (by omega)).2.2.2.2.1
        rw [if_neg (nI_ge (by omega) (by omega)), show (8 : Int32) * nI k + (11 : Int32) = nI (8 * (k + 1) + 3) by rw [li8, pk_mul, show (11 : Int32) = nI 11 from rfl, nI_add, show 8 * k + 11 = 8 * (k + 1) + 3 by omega], gdI (by omega) (by omega), nI_clamp (by omega), hb2, if_pos (nI_lt h2 (by omega))]
  | succ d ih =>
    intro fu k hk hf
    cases fu with
    | zero => omega
    | succ fu =>
      have hm : FF st (k + 1) ≤ FF st b := FF_mono (by omega)
      have hb2 := (L.2.1 (k + 1) (by omega)).2.2.2.2.1
      rw [den_L_same_L539, h3, li1, nI_add, if_neg (nI_ge (by omega) (by omega)), show (8 : Int32) * nI k + (11 : Int32) = nI (8 * (k + 1) + 3) by rw [li8, pk_mul, show (11 : Int32) = nI 11 from rfl, nI_add, show 8 * k + 11 = 8 * (k + 1) + 3 by omega], gdI (by omega) (by omega), nI_clamp (by omega), hb2, if_neg (nI_nlt (by omega) (by omega))]
      exact ih fu (k + 1) (by omega) (by omega)
def cbit (st : Nat → Int32) (b c : Nat) : Nat := if (c - FF st b) / tl st b = 2 then 0 else if (c - FF st b) % tl st b < 4 then 0 else tb st b ((c - FF st b) / tl st b) ((c - FF st b) % tl st b)
theorem in_3 {st : Nat → Int32} {b c : Nat} (h1 : FF st b ≤ c) (h2 : c < FF st (b + 1)) : (c - FF st b) / tl st b = 2 ∨ (c - FF st b) / tl st b < 2 := by
  rw [FF_s] at h2
  have ht2 : 2 ≤ tl st b := by unfold tl; omega
  rcases part_3 ht2 (o := c - FF st b) (by omega) with ⟨-, e⟩ | ⟨-, -, e⟩ | ⟨-, e⟩ <;> omega
theorem m_bit0 {st : Nat → Int32} (h : WF st) {b t p : Nat} (hp : p < 4) : den_X7_bitAt st (nI b) (nI t) (nI p) = some 0 := by
  unfold den_X7_bitAt
  rw [li4, if_neg (nI_ge hp (by omega))]
theorem m_bitOf {st : Nat → Int32} (w : WF st) {b c : Nat} (hb : b < nB st) (h1 : FF st b ≤ c) (h2 : c < FF st (b + 1)) : den_X7_bitOf st (nI c) = some (nI (cbit st b c)) := by
  have h16 := w.n16
  have hF := FF_2464 w (b := b + 1) hb
  have htl := tl_le w hb
  have ht4 : 4 < tl st b := by unfold tl; omega
  have h3 := in_3 h1 h2
  unfold den_X7_bitOf cbit
  rw [m_blk w hb h1 h2, bnd_s, m_part_in w hb h1 h2, bnd_s]
  by_cases c2 : (c - FF st b) / tl st b = 2
  · rw [c2, if_pos (show nI 2 = (2 : Int32) from rfl), if_pos rfl]; rfl
  · rw [if_neg (show ¬ nI ((c - FF st b) / tl st b) = (2 : Int32) from fun z => c2 ((nI_eq (b := 2) (by omega) (by omega)).mp z)), if_neg c2, m_first w (by omega), bnd_s, m_tl w hb, bnd_s, gd_t (decide_eq_true (show ¬ nI (tl st b) = (0 : Int32) by rw [nI_0iff (by omega)]; omega)), nIs h1, pk_rem (by omega) (by omega) (by omega)]
    by_cases c3 : (c - FF st b) % tl st b < 4
    · rw [if_pos c3, m_bit0 w c3, bnd_s]; rfl
    · rw [if_neg c3, m_bit w hb (by omega) (by omega) (Nat.mod_lt _ (by omega)), bnd_s]
theorem m_cell {st : Nat → Int32} (w : WF st) {b c : Nat} (hb : b < nB st) (h1 : FF st b ≤ c) (h2 : c < FF st (b + 1)) :
    den_X7_cell st (nI c) (0 : Int32) = some (nI (cB st c % 128)) ∧ den_X7_cell st (nI c) (1 : Int32) = some (nI (cB st c / 128)) ∧ den_X7_cell st (nI c) (2 : Int32) = some (nI (cbit st b c)) ∧ den_X7_cell st (nI c) (3 : Int32) = some (nI b) ∧ den_X7_cell st (nI c) (4 : Int32) = some (nI ((c - FF st b) / tl st b)) ∧ den_X7_cell st (nI c) (5 : Int32) = some (ctN st (nI c)) := by
  have h16 := w.n16
  have hF := FF_2464 w (Nat.le_refl _)
  have hk : c < FF st (nB st) := Nat.lt_of_lt_of_le h2 (FF_mono hb)
  have hc := isB_t hk hF
  refine ⟨?_, ?_, ?_, ?_, ?_, ?_⟩
  · unfold den_X7_cell
    rw [m_isC w, bnd_s, if_pos hc, if_neg (show ¬ (1 : Int32) = 0 by decide), if_pos rfl, m_vol w hk, bnd_s]
  · unfold den_X7_cell
    rw [m_isC w, bnd_s, if_pos hc, if_neg (show ¬ (1 : Int32) = 0 by decide), if_neg (show ¬ (1 : Int32) = 0 by decide), if_pos (show (1 : Int32) = 1 from rfl), m_bad w hk, bnd_s]
  · unfold den_X7_cell
    rw [m_isC w, bnd_s, if_pos hc, if_neg (show ¬ (1 : Int32) = 0 by decide), if_neg (show ¬ (2 : Int32) = 0 by decide), if_neg (show ¬ (2 : Int32) = 1 by decide), if_pos (show (2 : Int32) = 2 from rfl), m_bitOf w hb h1 h2, bnd_s]
  · unfold den_X7_cell
    rw [m_isC w, bnd_s, if_pos hc, if_neg (show ¬ (1 : Int32) = 0 by decide), if_neg (show ¬ (3 : Int32) = 0 by decide), if_neg (show ¬ (3 : Int32) = 1 by decide), if_neg (show ¬ (3 : Int32) = 2 by decide), if_pos (show (3 : Int32) = 3 from rfl), m_blk w hb h1 h2, bnd_s]
  · unfold den_X7_cell
    rw [m_isC w, bnd_s, if_pos hc, if_neg (show ¬ (1 : Int32) = 0 by decide), if_neg (show ¬ (4 : Int32) = 0 by decide), if_neg (show ¬ (4 : Int32) = 1 by decide), if_neg (show ¬ (4 : Int32) = 2 by decide), if_neg (show ¬ (4 : Int32) = 3 by decide), if_pos (show (4 : Int32) = 4 from rfl), m_part_in w hb h1 h2, bnd_s]
  · unfold den_X7_cell
    rw [m_isC w, bnd_s, if_pos hc, if_neg (show ¬ (1 : Int32) = 0 by decide), if_neg (show ¬ (5 : Int32) = 0 by decide), if_neg (show ¬ (5 : Int32) = 1 by decide), if_neg (show ¬ (5 : Int32) = 2 by decide), if_neg (show ¬ (5 : Int32) = 3 by decide), if_neg (show ¬ (5 : Int32) = 4 by decide), if_pos (show (5 : Int32) = 5 from rfl), show den_X7_counterOf st (nI c) = some (ctN st (nI c)) from rfl, bnd_s]
/-- the law's own bit of a cell -/
theorem l_cbit {bl st : Nat → Int32} {me : Nat → Int64} (w : WF st) (L : LB bl me st) {b c : Nat} (hb : b < nB st) (h1 : FF st b ≤ c) (h2 : c < FF st (b + 1)) :
    (if nI ((c - FF st b) / tl st b) = (2 : Int32) then some (0 : Int32) else if 0 ≤ nI ((c - FF st b) % tl st b) - (4 : Int32) then bnd (den_L_nine 48 64 bl me (nI b) (nI ((c - FF st b) / tl st b)) ((nI ((c - FF st b) % tl st b) - (4 : Int32)) / (9 : Int32))) (fun q110 => some ((q110 >>> (((nI ((c - FF st b) % tl st b) - (4 : Int32)) - (nI ((c - FF st b) % tl st b) - (4 : Int32)) / (9 : Int32) * (9 : Int32)) &&& 31)) &&& (1 : Int32))) else some (0 : Int32)) = some (nI (cbit st b c)) := by
  have h16 := w.n16
  have hF := FF_2464 w (b := b + 1) hb
  have htl := tl_le w hb
  have ht4 : 4 < tl st b := by unfold tl; omega
  have h3 := in_3 h1 h2
  have hp : (c - FF st b) % tl st b < tl st b := Nat.mod_lt _ (by omega)
  unfold cbit
  by_cases c2 : (c - FF st b) / tl st b = 2
  · rw [c2, if_pos (show nI 2 = (2 : Int32) from rfl), if_pos rfl]; rfl
  · rw [if_neg (show ¬ nI ((c - FF st b) / tl st b) = (2 : Int32) from fun z => c2 ((nI_eq (b := 2) (by omega) (by omega)).mp z)), if_neg c2]
    by_cases c3 : (c - FF st b) % tl st b < 4
    · rw [if_pos c3, if_neg (show ¬ (0 : Int32) ≤ nI ((c - FF st b) % tl st b) - (4 : Int32) from fun z => by
        have := pk_sneg (a := (c - FF st b) % tl st b) (b := 4) (by omega) c3
        rw [lt_iff] at this
        rw [le_iff] at z
        have e4 : nI 4 = (4 : Int32) := rfl
        rw [e4] at this
        have e0 : (0 : Int32).toInt = 0 := by decide
        omega)]
      rfl
    · rw [if_neg c3, li4, nIs (by omega), if_pos (show (0 : Int32) ≤ nI ((c - FF st b) % tl st b - 4) from nI_le (a := 0) (by omega) (by omega)), li9, pk_rem (by omega) (by omega) (by omega), pk_div (by omega) (by omega) (by omega)]
      generalize hpp : (c - FF st b) % tl st b = p at *
      have hk : (p - 4) / 9 ≤ mB st b := by unfold tl at hp; omega
      have hv := vN_lt w hb (t := (c - FF st b) / tl st b) (by omega) hk 8 (Nat.le_refl _)
      have t8 := tb_lt w hb (t := (c - FF st b) / tl st b) (by omega) (p := 4 + 9 * ((p - 4) / 9) + 8) (by unfold tl; omega)
      have v9 : vN st b ((c - FF st b) / tl st b) ((p - 4) / 9) 9 = vN st b ((c - FF st b) / tl st b) ((p - 4) / 9) 8 + 2 ^ 8 * tb st b ((c - FF st b) / tl st b) (4 + 9 * ((p - 4) / 9) + 8) := rfl
      have e8 : (2 : Nat) ^ 8 = 256 := rfl
      rw [l_nine w L hb (by omega) hk, bnd_s, shrJ (by omega) (by omega), li1, and1, vN_bit9 w hb (by omega) hk (Nat.le_refl 9) (by omega), show 4 + 9 * ((p - 4) / 9) + (p - 4) % 9 = p by omega]
