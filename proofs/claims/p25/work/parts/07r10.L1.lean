/-! p25: the law's own rows: bl (blocks, eight numbers each), me (cells, eight in a long), beside a ghost state st -/
theorem li13 : (13 : Int32) = nI 13 := rfl
def mN (me : Nat → Int64) (c : Nat) : Nat := uN (me (c / 8)) / 2 ^ (8 * (c % 8)) % 256
def LBb (bl st : Nat → Int32) (b : Nat) : Prop := mB st b ≤ 3 ∧ bl (8 * b) = st (4 + 10 * b + 0) ∧ bl (8 * b + 1) = st (4 + 10 * b + 1) ∧ bl (8 * b + 2) = nI (mB st b) ∧ bl (8 * b + 3) = nI (FF st b) ∧ ∀ k, k < 3 → bl (8 * b + 4 + k) = nI (yB st b k) ∧ (mB st b ≤ k → yB st b k = 0)
def LB (bl : Nat → Int32) (me : Nat → Int64) (st : Nat → Int32) : Prop := nB st ≤ 5 ∧ (∀ b, b < nB st → LBb bl st b) ∧ ∀ c, c < FF st (nB st) → mN me c = cB st c
theorem FF_82 {bl st : Nat → Int32} {me : Nat → Int64} (L : LB bl me st) : ∀ {b : Nat}, b ≤ nB st → FF st b ≤ 82 * b
  | 0, _ => Nat.le_refl _
  | b + 1, hb => by
    have h1 := FF_82 L (b := b) (by omega)
    have h2 := (L.2.1 b (by omega)).1
    show FF st b + (2 * tl st b + 2) ≤ 82 * (b + 1)
    unfold tl; omega
theorem FF_410 {bl st : Nat → Int32} {me : Nat → Int64} (L : LB bl me st) : FF st (nB st) ≤ 410 := by
  have h1 := FF_82 L (Nat.le_refl (nB st))
  have h2 := L.1
  omega
theorem l_size {bl st : Nat → Int32} {me : Nat → Int64} (L : LB bl me st) {b : Nat} (hb : b < nB st) : den_L_size 48 bl (nI b) = some (nI (tl st b)) := by
  have h5 := L.1
  have h3 := (L.2.1 b hb).1
  unfold den_L_size
  rw [li8, li2, pk_mul, nI_add, gdI (by omega) (by omega), nI_clamp (by omega), (L.2.1 b hb).2.2.2.1, li13, li9, pk_mul, nI_add]
  unfold tl
  rw [show 13 + 9 * mB st b = 4 + 9 * (mB st b + 1) by omega]
/-! a byte of a long -/
theorem sar_c (x c : Int64) (n : Nat) (hn : n ≤ 56) (h : (c.toBitVec.smod 64).toNat = n) : uN (x >>> c) % 256 = uN x / 2 ^ n % 256 := by
  unfold uN
  rw [Int64.toBitVec_shiftRight]
  show (x.toBitVec.sshiftRight (c.toBitVec.smod 64).toNat).toNat % 256 = _
  rw [h, show (256 : Nat) = 2 ^ 8 from rfl]
  apply Nat.eq_of_testBit_eq
  intro i
  rw [Nat.testBit_mod_two_pow, Nat.testBit_mod_two_pow, Nat.testBit_div_two_pow, BitVec.testBit_toNat, BitVec.testBit_toNat, BitVec.getLsbD_sshiftRight]
  by_cases hi : i < 8
  · have h1 : ¬ 64 ≤ i := by omega
    have h2 : n + i < 64 := by omega
    simp [hi, h1, h2, Nat.add_comm]
  · simp [hi]
theorem sar8 (x : Int64) {k : Nat} (hk : k < 8) : (x >>> ((nI (8 * k)).toInt64 &&& 63)).toInt32 &&& (255 : Int32) = nI (uN x / 2 ^ (8 * k) % 256) := by
  rw [low8]
  have : k = 0 ∨ k = 1 ∨ k = 2 ∨ k = 3 ∨ k = 4 ∨ k = 5 ∨ k = 6 ∨ k = 7 := by omega
  rcases this with e | e | e | e | e | e | e | e <;> subst e
  · rw [sar_c x _ 0 (by omega) (by decide +kernel)]
  · rw [sar_c x _ 8 (by omega) (by decide +kernel)]
  · rw [sar_c x _ 16 (by omega) (by decide +kernel)]
  · rw [sar_c x _ 24 (by omega) (by decide +kernel)]
  · rw [sar_c x _ 32 (by omega) (by decide +kernel)]
  · rw [sar_c x _ 40 (by omega) (by decide +kernel)]
  · rw [sar_c x _ 48 (by omega) (by decide +kernel)]
  · rw [sar_c x _ 56 (by omega) (by decide +kernel)]
theorem l_mem0 (me : Nat → Int64) {c : Nat} (hc : c < 512) : den_L_mem 64 me (nI c) = some (nI (mN me c)) := by
  unfold den_L_mem mN
  rw [li8, pk_rem (by omega) (by omega) (by omega), pk_div (by omega) (by omega) (by omega), pk_mul, gdI (by omega) (by omega), nI_clamp (by omega), sar8 _ (Nat.mod_lt _ (by omega))]
theorem l_mem {bl st : Nat → Int32} {me : Nat → Int64} (L : LB bl me st) {c : Nat} (hc : c < FF st (nB st)) : den_L_mem 64 me (nI c) = some (nI (cB st c)) := by
  have h := FF_410 L
  rw [l_mem0 me (by omega), L.2.2 c hc]
/-- a byte laid into a long -/
def lyL (x : Int64) (k v : Nat) : Int64 := (x &&& ((sl (255 : Int64) (8 * k)) ^^^ (-1 : Int64))) ||| sl (nI v).toInt64 (8 * k)
theorem lyL_at (x : Int64) {k v j : Nat} (hk : k < 8) (hv : v < 256) (hj : j < 8) : uN (lyL x k v) / 2 ^ (8 * j) % 256 = if j = k then v else uN x / 2 ^ (8 * j) % 256 := by
  have hx : (nI v).toInt64.toBitVec = BitVec.ofNat 64 v := by
    rw [nI_l (by omega)]
    rfl
  have hbit : ∀ i, i < 64 → (uN (lyL x k v)).testBit i = (((uN x).testBit i && !(decide (8 * k ≤ i) && (255 : Nat).testBit (i - 8 * k))) || (decide (8 * k ≤ i) && v.testBit (i - 8 * k))) := by
    intro i hi
    have h255 : (255 : Int64).toBitVec = BitVec.ofNat 64 255 := by decide +kernel
    have hm1 : (-1 : Int64).toBitVec = BitVec.allOnes 64 := by decide +kernel
    have hv2 : v < 2 ^ 64 := by omega
    unfold uN lyL
    rw [← BitVec.getLsbD, ← BitVec.getLsbD]
    rw [Int64.toBitVec_or, Int64.toBitVec_and, Int64.toBitVec_xor, sl_bv, sl_bv, hx, h255, hm1]
    simp only [BitVec.getLsbD_or, BitVec.getLsbD_and, BitVec.getLsbD_xor, BitVec.getLsbD_shiftLeft, BitVec.getLsbD_allOnes, BitVec.getLsbD_ofNat, hi, decide_true, Bool.true_and, Bool.xor_true]
    by_cases c : i < 8 * k
    · simp [c, Nat.not_le.mpr c]
    · have c2 : 8 * k ≤ i := by omega
      have c3 : i - 8 * k < 64 := by omega
      simp [c, c2, c3]
  apply Nat.eq_of_testBit_eq
  intro i
  rw [show (256 : Nat) = 2 ^ 8 from rfl, Nat.testBit_mod_two_pow, Nat.testBit_div_two_pow]
  by_cases hi : i < 8
  · rw [hbit _ (by omega), decide_eq_true hi, Bool.true_and]
    by_cases e : j = k
    · subst e
      rw [if_pos rfl, show i + 8 * j - 8 * j = i by omega, decide_eq_true (show 8 * j ≤ i + 8 * j by omega), Bool.true_and, Bool.true_and]
      have : (255 : Nat).testBit i = true := by
        rw [show (255 : Nat) = 2 ^ 8 - 1 from rfl, Nat.testBit_two_pow_sub_one, decide_eq_true hi]
      rw [this]
      simp
    · rw [if_neg e, Nat.testBit_mod_two_pow, Nat.testBit_div_two_pow, decide_eq_true hi, Bool.true_and]
      by_cases c : 8 * k ≤ i + 8 * j
      · have c2 : 8 ≤ i + 8 * j - 8 * k := by omega
        have h1 : (255 : Nat).testBit (i + 8 * j - 8 * k) = false := Nat.testBit_lt_two_pow (Nat.lt_of_lt_of_le (show 255 < 2 ^ 8 by decide) (Nat.pow_le_pow_right (by omega) c2))
        have h2 : v.testBit (i + 8 * j - 8 * k) = false := Nat.testBit_lt_two_pow (Nat.lt_of_lt_of_le (show v < 2 ^ 8 from hv) (Nat.pow_le_pow_right (by omega) c2))
        rw [h1, h2]
        simp
      · rw [decide_eq_false c]
        simp
  · rw [decide_eq_false hi, Bool.false_and]
    by_cases e : j = k
    · rw [if_pos e]
      exact (Nat.testBit_lt_two_pow (Nat.lt_of_lt_of_le (show v < 2 ^ 8 from hv) (Nat.pow_le_pow_right (by omega) (by omega)))).symm
    · rw [if_neg e, Nat.testBit_mod_two_pow, decide_eq_false hi, Bool.false_and]
theorem sl_n8 (x : Int64) {k : Nat} (hk : k < 8) : x <<< ((nI (8 * k)).toInt64 &&& 63) = sl x (8 * k) := by
  have h := sl_8k x hk
  rw [li8, pk_mul] at h
  exact h
theorem l_lay0 (me : Nat → Int64) {c v : Nat} (hc : c < 512) : den_L_lay 64 me (nI c) (nI v) = some (vp_updL me (c / 8) (lyL (me (c / 8)) (c % 8) v)) := by
  unfold den_L_lay lyL
  rw [li8, pk_rem (by omega) (by omega) (by omega), pk_div (by omega) (by omega) (by omega), pk_mul, gdI (by omega) (by omega), gdI (by omega) (by omega), nI_clamp (by omega), sl_n8 _ (Nat.mod_lt _ (by omega)), sl_n8 _ (Nat.mod_lt _ (by omega))]
theorem mN_lay (me : Nat → Int64) {c v j : Nat} (hv : v < 256) : mN (vp_updL me (c / 8) (lyL (me (c / 8)) (c % 8) v)) j = if j = c then v else mN me j := by
  unfold mN
  by_cases e : j / 8 = c / 8
  · rw [e, pk_uLs, lyL_at _ (Nat.mod_lt _ (by omega)) hv (Nat.mod_lt _ (by omega))]
    by_cases e2 : j = c
    · rw [if_pos (by rw [e2]), if_pos e2]
    · rw [if_neg (by omega), if_neg e2]
  · rw [pk_uLn e, if_neg (fun q => e (by rw [q]))]
/-! how many bits are 1, as the law counts them -/
theorem odd_step : ∀ v : Fin 512, v.1 ≠ 0 → (v.1 &&& (v.1 - 1)) < v.1 ∧ sb (v.1 &&& (v.1 - 1)) 9 % 2 = 1 - sb v.1 9 % 2 := by decide +kernel
theorem l_odd_L : ∀ (v : Nat), v < 512 → ∀ (fu y : Nat), v < fu → y < 2 → den_L_odd_L4 fu (nI y) (nI v) = some (nI (y ^^^ (sb v 9 % 2))) := by
  intro v
  induction v using Nat.strongRecOn with
  | ind v ih =>
    intro hv fu y hf hy
    cases fu with
    | zero => omega
    | succ fu =>
      rw [den_L_odd_L4]
      by_cases c : v = 0
      · subst c
        rw [if_pos (show nI 0 = (0 : Int32) from rfl), show sb 0 9 % 2 = 0 from rfl, Nat.xor_zero]
      · obtain ⟨h1, h2⟩ := odd_step ⟨v, hv⟩ c
        have h1 : v &&& (v - 1) < v := h1
        have h2 : sb (v &&& (v - 1)) 9 % 2 = 1 - sb v 9 % 2 := h2
        rw [if_neg (show ¬ nI v = (0 : Int32) by rw [nI_0iff (by omega)]; exact c), li1, nIs (by omega), fa_and, fb_xorI, ih _ h1 (by omega) fu (y ^^^ 1) (by omega) (xor2 hy (by omega)), h2]
        have h3 : sb v 9 % 2 = 0 ∨ sb v 9 % 2 = 1 := by omega
        have h4 : y = 0 ∨ y = 1 := by omega
        rcases h3 with e | e <;> rcases h4 with f | f <;> rw [e, f] <;> rfl
theorem l_odd {v : Nat} (hv : v < 512) : den_L_odd (nI v) = some (nI (sb v 9 % 2)) := by
  unfold den_L_odd
  have h := l_odd_L v hv FU 0 (by rw [FU_eq]; omega) (by omega)
  rw [show nI 0 = (0 : Int32) from rfl, Nat.zero_xor] at h
  rw [h, bnd_s]
theorem sb_98 {v : Nat} (hv : v < 256) : sb v 9 = sb v 8 := by
  show sb v 8 + v / 2 ^ 8 % 2 = sb v 8
  rw [Nat.div_eq_of_lt (show v < 2 ^ 8 from hv)]
  omega
