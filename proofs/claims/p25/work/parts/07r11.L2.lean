/-! p25: sums, nine bits, bytes as they are read -/
theorem sy_3 {bl st : Nat → Int32} {me : Nat → Int64} (L : LB bl me st) {b : Nat} (hb : b < nB st) (hm : 1 ≤ mB st b) : yB st b 0 + yB st b 1 + yB st b 2 = sy st b (mB st b) := by
  obtain ⟨h3, -, -, -, -, hy⟩ := L.2.1 b hb
  have y1 := (hy 1 (by omega)).2
  have y2 := (hy 2 (by omega)).2
  have hc : mB st b = 1 ∨ mB st b = 2 ∨ mB st b = 3 := by omega
  rcases hc with e | e | e
  · rw [y1 (by omega), y2 (by omega), e]
    show _ = 0 + yB st b 0
    omega
  · rw [y2 (by omega), e]
    show _ = 0 + yB st b 0 + yB st b 1
    omega
  · rw [e]
    show _ = 0 + yB st b 0 + yB st b 1 + yB st b 2
    omega
theorem l_sumB {bl st : Nat → Int32} {me : Nat → Int64} (w : WF st) (L : LB bl me st) {b : Nat} (hb : b < nB st) : den_L_sum 48 bl (nI b) = some (nI (sy st b (mB st b) % 256)) := by
  have h5 := L.1
  have hy := (L.2.1 b hb).2.2.2.2.2
  have hs := sy_3 L hb (w.m1 hb)
  unfold den_L_sum
  have y0 := (hy 0 (by omega)).1
  have y1 := (hy 1 (by omega)).1
  have y2 := (hy 2 (by omega)).1
  rw [li8, li4, li5, li6, pk_mul, nI_add, nI_add, nI_add, gdI (by omega) (by omega), gdI (by omega) (by omega), gdI (by omega) (by omega), nI_clamp (by omega), nI_clamp (by omega), nI_clamp (by omega), show 8 * b + 4 = 8 * b + 4 + 0 from rfl, show 8 * b + 5 = 8 * b + 4 + 1 from rfl, show 8 * b + 6 = 8 * b + 4 + 2 from rfl, y0, y1, y2, nI_add, nI_add, hs, li255, and255]
def wN (st : Nat → Int32) (b k : Nat) : Nat → Nat
  | 0 => 0
  | n + 1 => wN st b k n + 2 ^ n * wb st b (9 * k + n)
def dN (st : Nat → Int32) (b t k : Nat) : Nat → Nat
  | 0 => 0
  | n + 1 => dN st b t k n + 2 ^ n * (cB st (bs st b t + (4 + 9 * k + n)) / 128)
theorem xor_hi {a b x y n : Nat} (ha : a < 2 ^ n) (hb : b < 2 ^ n) : (a + 2 ^ n * x) ^^^ (b + 2 ^ n * y) = (a ^^^ b) + 2 ^ n * (x ^^^ y) := by
  rw [Nat.add_comm a, Nat.add_comm b, Nat.two_pow_add_eq_or_of_lt ha, Nat.two_pow_add_eq_or_of_lt hb, Nat.add_comm (a ^^^ b), Nat.two_pow_add_eq_or_of_lt (Nat.xor_lt_two_pow ha hb)]
  apply Nat.eq_of_testBit_eq
  intro i
  simp only [Nat.testBit_xor, Nat.testBit_or, Nat.testBit_two_pow_mul]
  by_cases c : n ≤ i
  · have h1 : a.testBit i = false := Nat.testBit_lt_two_pow (Nat.lt_of_lt_of_le ha (Nat.pow_le_pow_right (by omega) c))
    have h2 : b.testBit i = false := Nat.testBit_lt_two_pow (Nat.lt_of_lt_of_le hb (Nat.pow_le_pow_right (by omega) c))
    simp [h1, h2, c]
  · simp [c]
theorem wN_lt (st : Nat → Int32) (b k : Nat) : ∀ n, wN st b k n < 2 ^ n
  | 0 => by show 0 < 1; omega
  | n + 1 => by
    have h1 := wN_lt st b k n
    have h2 := wb_lt st b (9 * k + n)
    show wN st b k n + 2 ^ n * wb st b (9 * k + n) < 2 ^ (n + 1)
    rw [Nat.pow_succ]
    have h3 : wb st b (9 * k + n) = 0 ∨ wb st b (9 * k + n) = 1 := by omega
    rcases h3 with e | e <;> rw [e] <;> omega
theorem dN_lt {st : Nat → Int32} (w : WF st) {b : Nat} (hb : b < nB st) {t k : Nat} (ht : t < 2) (hk : k ≤ mB st b) : ∀ n, n ≤ 9 → dN st b t k n < 2 ^ n
  | 0, _ => by show 0 < 1; omega
  | n + 1, hn => by
    have h1 := dN_lt w hb ht hk n (by omega)
    have h2 := (w.c (cell_in hb ht (p := 4 + 9 * k + n) (by unfold tl; omega))).2.1
    show dN st b t k n + 2 ^ n * (cB st (bs st b t + (4 + 9 * k + n)) / 128) < 2 ^ (n + 1)
    rw [Nat.pow_succ]
    have h3 : cB st (bs st b t + (4 + 9 * k + n)) / 128 = 0 ∨ cB st (bs st b t + (4 + 9 * k + n)) / 128 = 1 := by omega
    rcases h3 with e | e <;> rw [e] <;> omega
theorem vN_x {st : Nat → Int32} (w : WF st) {b : Nat} (hb : b < nB st) {t k : Nat} (ht : t < 2) (hk : k ≤ mB st b) : ∀ n, n ≤ 9 → vN st b t k n = wN st b k n ^^^ dN st b t k n
  | 0, _ => by
    show (0 : Nat) = 0 ^^^ 0
    rw [Nat.xor_zero]
  | n + 1, hn => by
    show vN st b t k n + 2 ^ n * tb st b t (4 + 9 * k + n) = (wN st b k n + 2 ^ n * wb st b (9 * k + n)) ^^^ (dN st b t k n + 2 ^ n * (cB st (bs st b t + (4 + 9 * k + n)) / 128))
    rw [xor_hi (wN_lt st b k n) (dN_lt w hb ht hk n (by omega)), vN_x w hb ht hk n (by omega)]
    unfold tb
    rw [show 4 + 9 * k + n - 4 = 9 * k + n by omega]
theorem wN_8 (st : Nat → Int32) (b k : Nat) : ∀ n, n ≤ 8 → wN st b k n = byt st b k % 2 ^ n
  | 0, _ => by
    show 0 = byt st b k % 1
    omega
  | n + 1, hn => by
    show wN st b k n + 2 ^ n * wb st b (9 * k + n) = byt st b k % 2 ^ (n + 1)
    have e : wb st b (9 * k + n) = byt st b k / 2 ^ n % 2 := by
      unfold wb
      rw [show (9 * k + n) % 9 = n by omega, show (9 * k + n) / 9 = k by omega, if_pos (by omega)]
    rw [wN_8 st b k n (by omega), e, Nat.pow_succ, Nat.mod_mul]
theorem wN_9 {st : Nat → Int32} (w : WF st) {b : Nat} (hb : b < nB st) {k : Nat} (hk : k ≤ mB st b) : wN st b k 9 = byt st b k + 256 * (sb (byt st b k) 8 % 2) := by
  have hv := byt_lt w hb hk
  show wN st b k 8 + 2 ^ 8 * wb st b (9 * k + 8) = _
  have e : wb st b (9 * k + 8) = sb (byt st b k) 8 % 2 := by
    unfold wb
    rw [show (9 * k + 8) % 9 = 8 by omega, show (9 * k + 8) / 9 = k by omega, if_neg (by omega)]
  rw [wN_8 st b k 8 (by omega), e, show (2 : Nat) ^ 8 = 256 from rfl, Nat.mod_eq_of_lt hv]
theorem l_nine_L {bl st : Nat → Int32} {me : Nat → Int64} (w : WF st) (L : LB bl me st) {b : Nat} (hb : b < nB st) {t k : Nat} (ht : t < 2) (hk : k ≤ mB st b) (z : Nat) : ∀ (d fu n : Nat), n + d = 9 → d < fu →
    den_L_nine_L73 64 me (nI (bs st b t + 4 + 9 * k)) fu (nI (z ^^^ dN st b t k n)) (nI n) = some (nI (z ^^^ dN st b t k 9)) := by
  intro d
  induction d with
  | zero =>
    intro fu n hn hf
    cases fu with
    | zero => omega
    | succ fu =>
      have : n = 9 := by omega
      subst this
      rw [den_L_nine_L73, if_pos (show (9 : Int32) ≤ nI 9 by decide)]
  | succ d ih =>
    intro fu n hn hf
    cases fu with
    | zero => omega
    | succ fu =>
      have hc := cell_in hb ht (p := 4 + 9 * k + n) (by unfold tl; omega)
      have h2 := (w.c hc).2.1
      have hd : cB st (bs st b t + (4 + 9 * k + n)) / 128 = 0 ∨ cB st (bs st b t + (4 + 9 * k + n)) / 128 = 1 := by omega
      have h9 : n < 9 := by omega
      have hs : (cB st (bs st b t + (4 + 9 * k + n)) / 128) * 2 ^ n < 2 ^ 32 := by
        have h3 : (2 : Nat) ^ n ≤ 2 ^ 8 := Nat.pow_le_pow_right (by omega) (by omega)
        have h4 : (2 : Nat) ^ 8 < 2 ^ 32 := by decide
        rcases hd with e | e <;> rw [e] <;> omega
      have hx : dN st b t k (n + 1) = dN st b t k n ^^^ ((cB st (bs st b t + (4 + 9 * k + n)) / 128) * 2 ^ n) := by
        have := xor_hi (a := dN st b t k n) (b := 0) (x := 0) (y := cB st (bs st b t + (4 + 9 * k + n)) / 128) (dN_lt w hb ht hk n (by omega)) (Nat.two_pow_pos n)
        rw [Nat.mul_zero, Nat.add_zero, Nat.zero_add, Nat.xor_zero, Nat.zero_xor] at this
        rw [Nat.mul_comm _ (2 ^ n), this]
        rfl
      rw [den_L_nine_L73, if_neg (show ¬ (9 : Int32) ≤ nI n from nI_ge (b := 9) (by omega) (by omega)), nI_add, show bs st b t + 4 + 9 * k + n = bs st b t + (4 + 9 * k + n) by omega, l_mem L hc, bnd_s, li128, pk_div (by omega) (by omega) (by omega), shlJ (by omega) hs, fb_xorI, nm_d, Nat.xor_assoc, ← hx, li1, nI_add]
      exact ih fu (n + 1) (by omega) (by omega)
theorem l_nine {bl st : Nat → Int32} {me : Nat → Int64} (w : WF st) (L : LB bl me st) {b : Nat} (hb : b < nB st) {t k : Nat} (ht : t < 2) (hk : k ≤ mB st b) : den_L_nine 48 64 bl me (nI b) (nI t) (nI k) = some (nI (vN st b t k 9)) := by
  have h5 := L.1
  obtain ⟨h3, -, -, hm, hf, hy⟩ := L.2.1 b hb
  have hF := FF_82 L (b := b) (by omega)
  have hv := byt_lt w hb hk
  have ev : (if nI k = bl (8 * b + 2) then bnd (den_L_sum 48 bl (nI b)) (fun q14 => some q14) else gd (inb (nI (8 * b + 4 + k)) 48) (some (bl (nI (8 * b + 4 + k)).toNatClampNeg))) = some (nI (byt st b k)) := by
    rw [hm]
    unfold byt
    by_cases e : k = mB st b
    · subst e
      rw [if_pos rfl, if_pos rfl, l_sumB w L hb, bnd_s]
    · rw [if_neg (fun q => e ((nI_eq (by omega) (by omega)).mp q)), if_neg e, gdI (by omega) (by omega), nI_clamp (by omega), (hy k (by omega)).1]
  have hp : sb (byt st b k) 9 % 2 = sb (byt st b k) 8 % 2 := by rw [sb_98 hv]
  have h2 : sb (byt st b k) 8 % 2 < 2 := Nat.mod_lt _ (by omega)
  have hz : nI (byt st b k) ||| (nI (sb (byt st b k) 8 % 2) <<< ((8 : Int32) &&& 31)) = nI (wN st b k 9) := by
    rw [li8, shlJ (by omega) (by have : (2 : Nat) ^ 8 = 256 := rfl; have : (2 : Nat) ^ 32 = 4294967296 := rfl; omega), fa_or, or_add (show byt st b k < 2 ^ 8 from hv), wN_9 w hb hk]
  have hl := l_nine_L w L hb ht hk (wN st b k 9) 9 FU 0 (by omega) (by rw [FU_eq]; omega)
  rw [show dN st b t k 0 = 0 from rfl, Nat.xor_zero, ← vN_x w hb ht hk 9 (by omega), show nI 0 = (0 : Int32) from rfl] at hl
  unfold den_L_nine
  rw [show (8 : Int32) * nI b = nI (8 * b) by rw [li8, pk_mul], li2, li4, li3, nI_add, nI_add, nI_add, nI_add, gdI (by omega) (by omega), nI_clamp (by omega), ev, bnd_s, l_odd (by omega), bnd_s, hp, hz, gdI (by omega) (by omega), l_size L hb, bnd_s, nI_clamp (by omega), hf, pk_mul, nI_add, nI_add, li9, pk_mul, nI_add, nm_d, show FF st b + t * tl st b + 4 + 9 * k = bs st b t + 4 + 9 * k from rfl, hl, bnd_s]
theorem hN_no {l : Nat} {st : Nat → Int32} {c : Nat} : ∀ {n m : Nat}, n < m → ¬ l ≤ cB st (c + n) % 128 → hN l st c m = false
  | n, m + 1, h, hn => by
    show (hN l st c m && decide (l ≤ cB st (c + m) % 128)) = false
    by_cases e : n = m
    · subst e; rw [decide_eq_false hn, Bool.and_false]
    · rw [hN_no (n := n) (m := m) (by omega) hn, Bool.false_and]
theorem l_byte_L {bl st : Nat → Int32} {me : Nat → Int64} (w : WF st) (L : LB bl me st) {b : Nat} (hb : b < nB st) {t k l : Nat} (ht : t < 2) (hk : k ≤ mB st b) (hl : l ≤ 99) : ∀ (d fu n : Nat), n + d = 9 → d < fu → hN l st (bs st b t + (4 + 9 * k)) n = true →
    den_L_byteOf_L30 (nI b) (nI t) (nI k) (nI l) 48 64 bl me (nI (bs st b t + 4 + 9 * k)) fu (nI n) = some (rV l st b t k) := by
  have v8 := vN_lt w hb ht hk 8 (Nat.le_refl _)
  have t8 := tb_lt w hb ht (p := 4 + 9 * k + 8) (by unfold tl; omega)
  have v9 : vN st b t k 9 = vN st b t k 8 + 2 ^ 8 * tb st b t (4 + 9 * k + 8) := rfl
  have hc8 : (2 : Nat) ^ 8 = 256 := rfl
  have s9 : sb (vN st b t k 9) 9 % 2 = (sb (vN st b t k 8) 8 + tb st b t (4 + 9 * k + 8)) % 2 := by
    have a : ∀ v : Fin 256, ∀ x : Fin 2, sb (v.1 + 2 ^ 8 * x.1) 9 % 2 = (sb v.1 8 + x.1) % 2 := by decide +kernel
    rw [v9]
    exact a ⟨_, v8⟩ ⟨_, t8⟩
  intro d
  induction d with
  | zero =>
    intro fu n hn hf hh
    cases fu with
    | zero => omega
    | succ fu =>
      have : n = 9 := by omega
      subst this
      rw [den_L_byteOf_L30, if_pos (show (9 : Int32) ≤ nI 9 by decide), l_nine w L hb ht hk, bnd_s, l_odd (by omega), bnd_s, s9]
      unfold rV whole
      rw [hh, Bool.true_and]
      have s2 : sb (vN st b t k 8) 8 % 2 = 0 ∨ sb (vN st b t k 8) 8 % 2 = 1 := by omega
      by_cases e : tb st b t (4 + 9 * k + 8) = sb (vN st b t k 8) 8 % 2
      · rw [show (sb (vN st b t k 8) 8 + tb st b t (4 + 9 * k + 8)) % 2 = 0 by omega, if_pos (show nI 0 = (0 : Int32) from rfl), if_pos (decide_eq_true e), li255, and255, v9]
        rw [show (vN st b t k 8 + 2 ^ 8 * tb st b t (4 + 9 * k + 8)) % 256 = vN st b t k 8 by omega]
      · rw [show (sb (vN st b t k 8) 8 + tb st b t (4 + 9 * k + 8)) % 2 = 1 by omega, if_neg (show ¬ nI 1 = (0 : Int32) by decide), if_neg (by rw [decide_eq_false e]; decide)]
  | succ d ih =>
    intro fu n hn hf hh
    cases fu with
    | zero => omega
    | succ fu =>
      have hc := cell_in hb ht (p := 4 + 9 * k + n) (by unfold tl; omega)
      have h2 := w.c hc
      rw [den_L_byteOf_L30, if_neg (show ¬ (9 : Int32) ≤ nI n from nI_ge (b := 9) (by omega) (by omega)), nI_add, show bs st b t + 4 + 9 * k + n = bs st b t + (4 + 9 * k + n) by omega, l_mem L hc, bnd_s, li128, pk_rem (by omega) (by omega) (by omega)]
      by_cases c : l ≤ cB st (bs st b t + (4 + 9 * k + n)) % 128
      · rw [if_pos (nI_le c (by omega)), li1, nI_add]
        refine ih fu (n + 1) (by omega) (by omega) ?_
        show (hN l st (bs st b t + (4 + 9 * k)) n && decide (l ≤ cB st (bs st b t + (4 + 9 * k) + n) % 128)) = true
        rw [hh, show bs st b t + (4 + 9 * k) + n = bs st b t + (4 + 9 * k + n) by omega, decide_eq_true c]
        rfl
      · rw [if_neg (nI_ge (by omega) (by omega))]
        have hno : hN l st (bs st b t + (4 + 9 * k)) 9 = false := hN_no (n := n) (by omega) (by rw [show bs st b t + (4 + 9 * k) + n = bs st b t + (4 + 9 * k + n) by omega]; exact c)
        unfold rV whole
        rw [hno, Bool.false_and, if_neg Bool.false_ne_true]
theorem l_byte {bl st : Nat → Int32} {me : Nat → Int64} (w : WF st) (L : LB bl me st) {b : Nat} (hb : b < nB st) {t k l : Nat} (ht : t < 2) (hk : k ≤ mB st b) (hl : l ≤ 99) : den_L_byteOf 48 64 bl me (nI b) (nI t) (nI k) (nI l) = some (rV l st b t k) := by
  have h5 := L.1
  obtain ⟨h3, -, -, hm, hf, hy⟩ := L.2.1 b hb
  have hl := l_byte_L w L hb ht hk hl 9 FU 0 (by omega) (by rw [FU_eq]; omega) rfl
  rw [show nI 0 = (0 : Int32) from rfl] at hl
  unfold den_L_byteOf
  rw [show (8 : Int32) * nI b = nI (8 * b) by rw [li8, pk_mul], li3, nI_add, gdI (by omega) (by omega), l_size L hb, bnd_s, nI_clamp (by omega), hf, pk_mul, nI_add, li4, nI_add, li9, pk_mul, nI_add, nm_d, show FF st b + t * tl st b + 4 + 9 * k = bs st b t + 4 + 9 * k from rfl, hl]
theorem l_lost_L {bl st : Nat → Int32} {me : Nat → Int64} (w : WF st) (L : LB bl me st) {b : Nat} (hb : b < nB st) {t l : Nat} (ht : t < 2) (hl : l ≤ 99) : ∀ (d fu n : Nat), n + d = 4 → d < fu →
    den_L_lost_L6 (nI b) (nI t) (nI l) 48 64 bl me fu (nI (lc l st (bs st b t) n)) (nI n) = some (nI (lc l st (bs st b t) 4)) := by
  have h5 := L.1
  obtain ⟨h3, -, -, hm, hf, hy⟩ := L.2.1 b hb
  intro d
  induction d with
  | zero =>
    intro fu n hn hf2
    cases fu with
    | zero => omega
    | succ fu =>
      have : n = 4 := by omega
      subst this
      rw [den_L_lost_L6, if_pos (show (4 : Int32) ≤ nI 4 by decide)]
  | succ d ih =>
    intro fu n hn hf2
    cases fu with
    | zero => omega
    | succ fu =>
      have hc := cell_in hb ht (p := n) (by unfold tl; omega)
      have h2 := w.c hc
      rw [den_L_lost_L6, if_neg (show ¬ (4 : Int32) ≤ nI n from nI_ge (b := 4) (by omega) (by omega)), show (8 : Int32) * nI b = nI (8 * b) by rw [li8, pk_mul], li3, nI_add, gdI (by omega) (by omega), l_size L hb, bnd_s, nI_clamp (by omega), hf, pk_mul, nI_add, nI_add, show FF st b + t * tl st b + n = bs st b t + n from rfl, l_mem L hc, bnd_s, li128, pk_rem (by omega) (by omega) (by omega)]
      have e1 : (if nI (cB st (bs st b t + n) % 128) < nI l then some (0 : Int32) else some (1 : Int32)) = some (nI (if l ≤ cB st (bs st b t + n) % 128 then 1 else 0)) := by
        by_cases c : l ≤ cB st (bs st b t + n) % 128
        · rw [if_neg (nI_nlt c (by omega)), if_pos c]; rfl
        · rw [if_pos (nI_lt (by omega) (by omega)), if_neg c]; rfl
      rw [e1, bnd_s, nI_add, li1, nI_add]
      exact ih fu (n + 1) (by omega) (by omega)
theorem l_lost {bl st : Nat → Int32} {me : Nat → Int64} (w : WF st) (L : LB bl me st) {b : Nat} (hb : b < nB st) {t l : Nat} (ht : t < 2) (hl : l ≤ 99) : den_L_lost 48 64 bl me (nI b) (nI t) (nI l) = some (if lost l st b t = true then 1 else 0) := by
  have h := l_lost_L w L hb ht hl 4 FU 0 (by omega) (by rw [FU_eq]; omega)
  rw [show nI (lc l st (bs st b t) 0) = (0 : Int32) from rfl, show nI 0 = (0 : Int32) from rfl] at h
  have h2 := lc_le l st (bs st b t) 4
  unfold den_L_lost
  rw [h, bnd_s, li2]
  unfold lost
  by_cases c : lc l st (bs st b t) 4 < 2
  · rw [if_neg (nI_ge c (by omega)), if_pos (decide_eq_true c)]
  · rw [if_pos (nI_le (by omega) (by omega)), if_neg (by rw [decide_eq_false c]; decide)]
theorem allW_s {l : Nat} {st : Nat → Int32} {b t k : Nat} : allW l st b t (k + 1) = (allW l st b t k && whole l st b t k) := rfl
theorem allW_no {l : Nat} {st : Nat → Int32} {b t : Nat} : ∀ {k m : Nat}, k < m → ¬ whole l st b t k = true → allW l st b t m = false
  | k, m + 1, h, hn => by
    rw [allW_s]
    by_cases e : k = m
    · subst e
      cases hw : whole l st b t k with
      | true => exact absurd hw hn
      | false => rw [Bool.and_false]
    · rw [allW_no (k := k) (m := m) (by omega) hn, Bool.false_and]
theorem l_how_L {bl st : Nat → Int32} {me : Nat → Int64} (w : WF st) (L : LB bl me st) {b : Nat} (hb : b < nB st) {t l : Nat} (ht : t < 2) (hl : l ≤ 99) : ∀ (d fu k : Nat), k + d = mB st b → d < fu → allW l st b t k = true →
    den_L_how_L20 (nI b) (nI t) (nI l) 48 64 bl me fu (nI (sW st b t k)) (nI k) = some (nI (if allW l st b t (mB st b) = true then (if rV l st b t (mB st b) = nI (sW st b t (mB st b) % 256) then 0 else 3) else 2)) := by
  have h5 := L.1
  have h7 := w.m7 hb
  obtain ⟨h3, -, -, hm, hf, hy⟩ := L.2.1 b hb
  intro d
  induction d with
  | zero =>
    intro fu k hk hf2 ha
    cases fu with
    | zero => omega
    | succ fu =>
      have : k = mB st b := by omega
      subst this
      have hs := sW_lt w hb ht (mB st b) (Nat.le_refl _)
      rw [den_L_how_L20, show (8 : Int32) * nI b = nI (8 * b) by rw [li8, pk_mul], li2, nI_add, gdI (by omega) (by omega), nI_clamp (by omega), hm, if_pos (nI_le (Nat.le_refl _) (by omega)), gdI (by omega) (by omega), l_byte w L hb ht (Nat.le_refl _) hl, bnd_s, li255, and255, if_pos ha]
      by_cases e : rV l st b t (mB st b) = nI (sW st b t (mB st b) % 256)
      · rw [if_pos e, if_pos e]; rfl
      · rw [if_neg e, if_neg e]; rfl
  | succ d ih =>
    intro fu k hk hf2 ha
    cases fu with
    | zero => omega
    | succ fu =>
      have hv := vN_lt w hb ht (k := k) (by omega) 8 (Nat.le_refl _)
      rw [den_L_how_L20, show (8 : Int32) * nI b = nI (8 * b) by rw [li8, pk_mul], li2, nI_add, gdI (by omega) (by omega), nI_clamp (by omega), hm, if_neg (nI_ge (by omega) (by omega)), l_byte w L hb ht (k := k) (by omega) hl, bnd_s]
      unfold rV
      by_cases c : whole l st b t k = true
      · rw [if_pos c, if_pos (show (0 : Int32) ≤ nI (vN st b t k 8) from nI_le (a := 0) (by omega) (by omega)), nI_add, li1, nI_add]
        have := ih fu (k + 1) (by omega) (by omega) (by rw [allW_s, ha, c]; rfl)
        unfold rV at this
        exact this
      · rw [if_neg c, if_neg (show ¬ (0 : Int32) ≤ -6 by decide), allW_no (k := k) (by omega) c, if_neg Bool.false_ne_true]
theorem l_how {bl st : Nat → Int32} {me : Nat → Int64} (w : WF st) (L : LB bl me st) {b : Nat} (hb : b < nB st) {t l : Nat} (ht : t < 2) (hl : l ≤ 99) : den_L_how 48 64 bl me (nI b) (nI t) (nI l) = some (nI (hw l st b t)) := by
  have h7 := w.m7 hb
  have h := l_how_L w L hb ht hl (mB st b) FU 0 (by omega) (by rw [FU_eq]; omega) rfl
  rw [show nI (sW st b t 0) = (0 : Int32) from rfl, show nI 0 = (0 : Int32) from rfl] at h
  unfold den_L_how hw
  rw [l_lost w L hb ht hl, bnd_s]
  by_cases c : lost l st b t = true
  · rw [if_pos c, if_neg (show ¬ (1 : Int32) = 0 by decide), if_pos c]; rfl
  · rw [if_neg c, if_pos rfl, if_neg c, h]
