/-! bits, bytes and tellings of the reference -/
def sb (v : Nat) : Nat → Nat
  | 0 => 0
  | j + 1 => sb v j + v / 2 ^ j % 2
def sy (st : Nat → Int32) (b : Nat) : Nat → Nat
  | 0 => 0
  | k + 1 => sy st b k + yB st b k
def byt (st : Nat → Int32) (b k : Nat) : Nat := if k = mB st b then sy st b (mB st b) % 256 else yB st b k
def wb (st : Nat → Int32) (b i : Nat) : Nat := if i % 9 < 8 then byt st b (i / 9) / 2 ^ (i % 9) % 2 else sb (byt st b (i / 9)) 8 % 2
def bs (st : Nat → Int32) (b t : Nat) : Nat := FF st b + t * tl st b
def tb (st : Nat → Int32) (b t p : Nat) : Nat := wb st b (p - 4) ^^^ (cB st (bs st b t + p) / 128)
def hN (l : Nat) (st : Nat → Int32) (c : Nat) : Nat → Bool
  | 0 => true
  | n + 1 => hN l st c n && decide (l ≤ cB st (c + n) % 128)
def vN (st : Nat → Int32) (b t k : Nat) : Nat → Nat
  | 0 => 0
  | n + 1 => vN st b t k n + 2 ^ n * tb st b t (4 + 9 * k + n)
def whole (l : Nat) (st : Nat → Int32) (b t k : Nat) : Bool := hN l st (bs st b t + (4 + 9 * k)) 9 && decide (tb st b t (4 + 9 * k + 8) = sb (vN st b t k 8) 8 % 2)
def rV (l : Nat) (st : Nat → Int32) (b t k : Nat) : Int32 := if whole l st b t k = true then nI (vN st b t k 8) else -6
theorem sb_le (v : Nat) : ∀ j, sb v j ≤ j
  | 0 => Nat.le_refl 0
  | j + 1 => by
    have := sb_le v j
    show sb v j + v / 2 ^ j % 2 ≤ j + 1
    omega
theorem sy_lt {st : Nat → Int32} {b : Nat} (h : ∀ k, k < 7 → yB st b k < 256) : ∀ k, k ≤ 7 → sy st b k ≤ 255 * k
  | 0, _ => Nat.le_refl 0
  | k + 1, hk => by
    have h1 := sy_lt h k (by omega)
    have h2 := h k (by omega)
    show sy st b k + yB st b k ≤ 255 * (k + 1)
    omega
theorem byt_lt {st : Nat → Int32} (h : WF st) {b : Nat} (hb : b < nB st) {k : Nat} (hk : k ≤ mB st b) : byt st b k < 256 := by
  unfold byt
  by_cases e : k = mB st b
  · rw [if_pos e]; omega
  · rw [if_neg e]
    have := h.m7 hb
    exact (h.y hb (k := k) (by omega)).2
theorem wb_lt (st : Nat → Int32) (b i : Nat) : wb st b i < 2 := by
  unfold wb
  by_cases h : i % 9 < 8
  · rw [if_pos h]; omega
  · rw [if_neg h]; omega
theorem xor2 {a b : Nat} (ha : a < 2) (hb : b < 2) : a ^^^ b < 2 := by
  have h1 : a = 0 ∨ a = 1 := by omega
  have h2 : b = 0 ∨ b = 1 := by omega
  rcases h1 with rfl | rfl <;> rcases h2 with rfl | rfl <;> decide
theorem cell_in {st : Nat → Int32} {b : Nat} (hb : b < nB st) {t p : Nat} (ht : t < 2) (hp : p < tl st b) : bs st b t + p < FF st (nB st) := by
  have h1 : FF st (b + 1) ≤ FF st (nB st) := FF_mono hb
  rw [FF_s] at h1
  unfold bs
  have h2 : t = 0 ∨ t = 1 := by omega
  rcases h2 with rfl | rfl
  · omega
  · omega
theorem tb_lt {st : Nat → Int32} (h : WF st) {b : Nat} (hb : b < nB st) {t p : Nat} (ht : t < 2) (hp : p < tl st b) : tb st b t p < 2 := by
  have h1 := (h.c (cell_in hb ht hp)).2.1
  exact xor2 (wb_lt _ _ _) (by omega)
theorem vN_lt {st : Nat → Int32} (h : WF st) {b : Nat} (hb : b < nB st) {t k : Nat} (ht : t < 2) (hk : k ≤ mB st b) : ∀ n, n ≤ 8 → vN st b t k n < 2 ^ n
  | 0, _ => by show 0 < 1; omega
  | n + 1, hn => by
    have h1 := vN_lt h hb ht hk n (by omega)
    have h2 := tb_lt h hb ht (p := 4 + 9 * k + n) (by unfold tl; omega)
    show vN st b t k n + 2 ^ n * tb st b t (4 + 9 * k + n) < 2 ^ (n + 1)
    rw [Nat.pow_succ]
    have h3 : tb st b t (4 + 9 * k + n) = 0 ∨ tb st b t (4 + 9 * k + n) = 1 := by omega
    rcases h3 with e | e <;> rw [e] <;> omega
theorem m_isOdd_L {v : Nat} (hv : v < 2 ^ 31) : ∀ (d fu k : Nat), k + d = 8 → d < fu → den_X7_isOdd_L4 (nI v) fu (nI (sb v k)) (nI k) = some (nI (sb v 8)) := by
  intro d
  induction d with
  | zero =>
    intro fu k hk hf
    cases fu with
    | zero => omega
    | succ fu =>
      have : k = 8 := by omega
      subst this
      rw [den_X7_isOdd_L4, li8, if_pos (nI_le (Nat.le_refl _) (by omega))]
  | succ d ih =>
    intro fu k hk hf
    cases fu with
    | zero => omega
    | succ fu =>
      rw [den_X7_isOdd_L4, li8, if_neg (nI_ge (by omega) (by omega)), nm_d, shrJ hv (by omega), li1, and1, nI_add, nI_add]
      exact ih fu (k + 1) (by omega) (by omega)
theorem m_isOdd {v : Nat} (hv : v < 2 ^ 31) : den_X7_isOdd (nI v) = some (nI (sb v 8 % 2)) := by
  unfold den_X7_isOdd
  have h1 := m_isOdd_L hv 8 FU 0 (by omega) (by rw [FU_eq]; omega)
  rw [show nI (sb v 0) = (0 : Int32) from rfl, show nI 0 = (0 : Int32) from rfl] at h1
  rw [h1, bnd_s, li2]
  have := sb_le v 8
  rw [pk_rem (by omega) (by omega) (by omega)]
theorem m_sum_L {st : Nat → Int32} (h : WF st) {b : Nat} (hb : b < nB st) : ∀ (d fu k : Nat), k + d = mB st b → d < fu → den_X7_sumOf_L4 (nI b) st fu (nI (sy st b k)) (nI k) = some (nI (sy st b (mB st b))) := by
  have h1 := h.n16
  have h7 := h.m7 hb
  intro d
  induction d with
  | zero =>
    intro fu k hk hf
    cases fu with
    | zero => omega
    | succ fu =>
      have : k = mB st b := by omega
      subst this
      rw [den_X7_sumOf_L4, m_part2 st (by omega), bnd_s, h.m hb, if_pos (nI_le (Nat.le_refl _) (by omega))]
  | succ d ih =>
    intro fu k hk hf
    cases fu with
    | zero => omega
    | succ fu =>
      rw [den_X7_sumOf_L4, m_part2 st (by omega), bnd_s, h.m hb, if_neg (nI_ge (by omega) (by omega)), li3, nI_add, m_part st (by omega) (by omega), bnd_s, (h.y hb (k := k) (by omega)).1, nI_add, li1, nI_add]
      exact ih fu (k + 1) (by omega) (by omega)
theorem m_sum {st : Nat → Int32} (h : WF st) {b : Nat} (hb : b < nB st) : den_X7_sumOf st (nI b) = some (nI (sy st b (mB st b) % 256)) := by
  unfold den_X7_sumOf
  have h1 := m_sum_L h hb (mB st b) FU 0 (by omega) (by have := h.m7 hb; rw [FU_eq]; omega)
  rw [show nI (sy st b 0) = (0 : Int32) from rfl, show nI 0 = (0 : Int32) from rfl] at h1
  rw [h1, bnd_s, li256]
  have h2 := sy_lt (fun k hk => (h.y hb hk).2) (mB st b) (h.m7 hb)
  have h7 := h.m7 hb
  rw [pk_rem (by omega) (by omega) (by omega)]
theorem m_byte {st : Nat → Int32} (h : WF st) {b : Nat} (hb : b < nB st) {k : Nat} (hk : k ≤ mB st b) : den_X7_byteAt st (nI b) (nI k) = some (nI (byt st b k)) := by
  have h1 := h.n16
  have h7 := h.m7 hb
  unfold den_X7_byteAt byt
  rw [m_part2 st (by omega), bnd_s, h.m hb]
  by_cases e : k = mB st b
  · subst e
    rw [if_pos rfl, if_pos rfl, m_sum h hb, bnd_s]
  · rw [if_neg (fun q => e ((nI_eq (by omega) (by omega)).mp q)), if_neg e, li3, nI_add, m_part st (by omega) (by omega), bnd_s, (h.y hb (k := k) (by omega)).1]
theorem m_vol {st : Nat → Int32} (h : WF st) {c : Nat} (hc : c < FF st (nB st)) : den_X7_volumeOf st (nI c) = some (nI (cB st c % 128)) := by
  have h1 := FF_2464 h (Nat.le_refl _)
  obtain ⟨e, h2, -⟩ := h.c hc
  unfold den_X7_volumeOf
  rw [li164, nI_add, gdI (by omega) (by omega), nI_clamp (by omega), e, li128, pk_rem (by omega) (by omega) (by omega)]
theorem m_bad {st : Nat → Int32} (h : WF st) {c : Nat} (hc : c < FF st (nB st)) : den_X7_badness st (nI c) = some (nI (cB st c / 128)) := by
  have h1 := FF_2464 h (Nat.le_refl _)
  obtain ⟨e, h2, -⟩ := h.c hc
  unfold den_X7_badness
  rw [li164, nI_add, gdI (by omega) (by omega), nI_clamp (by omega), e, li128, pk_div (by omega) (by omega) (by omega)]
theorem m_heard {st : Nat → Int32} (h : WF st) {c : Nat} (hc : c < FF st (nB st)) : den_X7_isHeard st (nI c) = some (if lB st ≤ cB st c % 128 then 1 else 0) := by
  unfold den_X7_isHeard
  rw [m_vol h hc, bnd_s, h.l.1]
  have h2 := h.l.2
  by_cases e : lB st ≤ cB st c % 128
  · rw [if_pos e, if_neg (nI_nlt e (by omega))]
  · rw [if_neg e, if_pos (nI_lt (by omega) (by omega))]
theorem m_bit {st : Nat → Int32} (h : WF st) {b : Nat} (hb : b < nB st) {t p : Nat} (ht : t < 2) (h4 : 4 ≤ p) (hp : p < tl st b) : den_X7_bitAt st (nI b) (nI t) (nI p) = some (nI (tb st b t p)) := by
  have h1 := h.n16
  have h7 := h.m7 hb
  have hc := cell_in hb ht hp
  have hF := FF_2464 h (Nat.le_refl _)
  have hk : (p - 4) / 9 ≤ mB st b := by unfold tl at hp; omega
  have hv := byt_lt h hb hk
  unfold den_X7_bitAt
  rw [li4, if_pos (nI_le h4 (by omega)), pk_sub h4, li9, pk_div (by omega) (by omega) (by omega), m_byte h hb hk, bnd_s, nm_d, show nI (p - 4) - nI ((p - 4) / 9) * nI 9 = nI ((p - 4) % 9) by rw [pk_mul, pk_sub (by omega)]; congr 1; omega, li8]
  have e1 : (if nI 8 ≤ nI ((p - 4) % 9) then bnd (den_X7_isOdd (nI (byt st b ((p - 4) / 9)))) (fun q9 => some q9) else some ((nI (byt st b ((p - 4) / 9)) >>> (nI ((p - 4) % 9) &&& 31)) &&& (1 : Int32))) = some (nI (wb st b (p - 4))) := by
    unfold wb
    by_cases e : (p - 4) % 9 < 8
    · rw [if_neg (nI_ge (by omega) (by omega)), if_pos e, shrJ (by omega) (by omega), li1, and1]
    · rw [if_pos (nI_le (by omega) (by omega)), if_neg e, m_isOdd (by omega), bnd_s]
  rw [e1, bnd_s, m_first h (by omega), bnd_s, m_tl h hb, bnd_s, pk_mul, nI_add, nI_add]
  rw [show FF st b + t * tl st b + p = bs st b t + p from rfl, m_bad h hc, bnd_s, fb_xorI]
  rfl
theorem or_add {v n a : Nat} (hv : v < 2 ^ n) : v ||| (a * 2 ^ n) = v + 2 ^ n * a := by
  rw [Nat.or_comm, Nat.mul_comm a, ← Nat.two_pow_add_eq_or_of_lt hv, Nat.add_comm]
theorem m_read_L {st : Nat → Int32} (h : WF st) {b : Nat} (hb : b < nB st) {t k : Nat} (ht : t < 2) (hk : k ≤ mB st b) : ∀ (d fu n : Nat), n + d = 9 → d < fu →
    den_X7_readAt_L35 (nI b) (nI t) (nI k) st (nI (bs st b t + (4 + 9 * k))) fu (if hN (lB st) st (bs st b t + (4 + 9 * k)) n = true then 1 else 0) (nI (vN st b t k (min n 8))) (nI n) = some ((if hN (lB st) st (bs st b t + (4 + 9 * k)) 9 = true then 1 else 0), nI (vN st b t k 8)) := by
  have h7 := h.m7 hb
  intro d
  induction d with
  | zero =>
    intro fu n hn hf
    cases fu with
    | zero => omega
    | succ fu =>
      have : n = 9 := by omega
      subst this
      rw [den_X7_readAt_L35, li9, if_pos (nI_le (Nat.le_refl _) (by omega))]
      rfl
  | succ d ih =>
    intro fu n hn hf
    cases fu with
    | zero => omega
    | succ fu =>
      have hp : 4 + 9 * k + n < tl st b := by unfold tl; omega
      have hc := cell_in hb ht hp
      rw [den_X7_readAt_L35, li9, if_neg (nI_ge (by omega) (by omega)), nI_add, show bs st b t + (4 + 9 * k) + n = bs st b t + (4 + 9 * k + n) by omega, m_heard h hc, bnd_s]
      have e1 : (if (if hN (lB st) st (bs st b t + (4 + 9 * k)) n = true then (1 : Int32) else 0) = 0 then some (0 : Int32) else if (if lB st ≤ cB st (bs st b t + (4 + 9 * k + n)) % 128 then (1 : Int32) else 0) = 0 then some 0 else some 1) = some (if hN (lB st) st (bs st b t + (4 + 9 * k)) (n + 1) = true then 1 else 0) := by
        have e2 : hN (lB st) st (bs st b t + (4 + 9 * k)) (n + 1) = (hN (lB st) st (bs st b t + (4 + 9 * k)) n && decide (lB st ≤ cB st (bs st b t + (4 + 9 * k + n)) % 128)) := by
          show (hN (lB st) st _ n && decide (lB st ≤ cB st (bs st b t + (4 + 9 * k) + n) % 128)) = _
          rw [show bs st b t + (4 + 9 * k) + n = bs st b t + (4 + 9 * k + n) by omega]
        rw [e2]
        by_cases c1 : hN (lB st) st (bs st b t + (4 + 9 * k)) n = true
        · by_cases c2 : lB st ≤ cB st (bs st b t + (4 + 9 * k + n)) % 128
          · simp [c1, c2]
          · simp [c1, c2]
        · simp [c1]
      rw [e1, bnd_s, li8]
      have e3 : (if nI 8 ≤ nI n then some (0 : Int32) else bnd (den_X7_bitAt st (nI b) (nI t) ((4 : Int32) + nI 9 * nI k + nI n)) (fun q13 => some (q13 <<< (nI n &&& 31)))) = some (if n < 8 then nI (tb st b t (4 + 9 * k + n) * 2 ^ n) else 0) := by
        by_cases c : n < 8
        · have h2 := tb_lt h hb ht hp
          have h3 : (2 : Nat) ^ n ≤ 2 ^ 7 := Nat.pow_le_pow_right (by omega) (by omega)
          have h4 : tb st b t (4 + 9 * k + n) * 2 ^ n ≤ 1 * 2 ^ 7 := Nat.mul_le_mul (by omega) h3
          rw [if_neg (nI_ge c (by omega)), if_pos c, li4, pk_mul, nI_add, nI_add, m_bit h hb ht (by omega) hp, bnd_s, shlJ (by omega) (by omega)]
        · rw [if_pos (nI_le (by omega) (by omega)), if_neg c]
      rw [e3, bnd_s]
      have e4 : nI (vN st b t k (min n 8)) ||| (if n < 8 then nI (tb st b t (4 + 9 * k + n) * 2 ^ n) else 0) = nI (vN st b t k (min (n + 1) 8)) := by
        by_cases c : n < 8
        · rw [if_pos c, fa_or, Nat.min_eq_left (by omega), Nat.min_eq_left (by omega), or_add (vN_lt h hb ht hk n (by omega))]
          rfl
        · rw [if_neg c, li0, fa_or, Nat.or_zero, Nat.min_eq_right (by omega), Nat.min_eq_right (by omega)]
      rw [e4, li1, nI_add]
      exact ih fu (n + 1) (by omega) (by omega)
theorem m_read {st : Nat → Int32} (h : WF st) {b : Nat} (hb : b < nB st) {t k : Nat} (ht : t < 2) (hk : k ≤ mB st b) : den_X7_readAt st (nI b) (nI t) (nI k) = some (rV (lB st) st b t k) := by
  have h7 := h.m7 hb
  unfold den_X7_readAt
  rw [m_first h (by omega), bnd_s, m_tl h hb, bnd_s, nm_d, pk_mul, li4, li9, pk_mul, nI_add, nI_add, nI_add, show FF st b + t * tl st b + (4 + 9 * k) = bs st b t + (4 + 9 * k) from rfl]
  have h1 := m_read_L h hb ht hk 9 FU 0 (by omega) (by rw [FU_eq]; omega)
  rw [show nI 0 = (0 : Int32) from rfl] at h1
  rw [show nI (vN st b t k (min 0 8)) = (0 : Int32) from rfl, show (if hN (lB st) st (bs st b t + (4 + 9 * k)) 0 = true then (1 : Int32) else 0) = 1 from rfl] at h1
  rw [h1, bnd_s]
  have hp : 4 + 9 * k + 8 < tl st b := by unfold tl; omega
  have hv := vN_lt h hb ht hk 8 (Nat.le_refl _)
  unfold rV whole
  by_cases c : hN (lB st) st (bs st b t + (4 + 9 * k)) 9 = true
  · rw [if_pos c, if_neg (show ¬ ((1 : Int32), nI (vN st b t k 8)).1 = 0 from (show ¬ (1 : Int32) = 0 by decide)), li8, nI_add, m_bit h hb ht (by omega) hp, bnd_s, m_isOdd (by omega), bnd_s]
    have h2 := tb_lt h hb ht hp
    by_cases e : tb st b t (4 + 9 * k + 8) = sb (vN st b t k 8) 8 % 2
    · rw [if_pos (by rw [e]), if_pos (by rw [c, decide_eq_true e]; rfl)]
    · rw [if_neg (fun q => e ((nI_eq (by omega) (by omega)).mp q)), if_neg (by rw [c, decide_eq_false e]; decide)]
  · rw [if_neg c, if_pos (show ((0 : Int32), nI (vN st b t k 8)).1 = 0 from rfl), if_neg (by intro q; rw [Bool.and_eq_true] at q; exact c q.1)]
