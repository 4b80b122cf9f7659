/-! p25: what is loaded, as a number; the greatest LEAST -/
theorem lN_bv (n : Nat) : (lN n).toBitVec = BitVec.ofNat 64 n := rfl
theorem sl_lN (n k : Nat) : sl (lN n) k = lN (n * 2 ^ k) := by
  apply Int64.toBitVec_inj.mp
  rw [sl_bv, lN_bv, lN_bv]
  apply BitVec.eq_of_toNat_eq
  rw [BitVec.toNat_shiftLeft, BitVec.toNat_ofNat, BitVec.toNat_ofNat, Nat.shiftLeft_eq, Nat.mod_mul_mod]
theorem or_lN {a v n : Nat} (ha : a < 2 ^ n) : lN a ||| lN (v * 2 ^ n) = lN (a + 2 ^ n * v) := by
  rw [← or_add ha]
  apply Int64.toBitVec_inj.mp
  rw [Int64.toBitVec_or, lN_bv, lN_bv, lN_bv]
  apply BitVec.eq_of_getLsbD_eq
  intro i hi
  simp [hi]
def zS (l : Nat) (st : Nat → Int32) (b : Nat) : Nat → Nat
  | 0 => 0
  | k + 1 => zS l st b k + 2 ^ (8 * k) * gN l st b k
theorem gN_lt {st : Nat → Int32} (w : WF st) {l b k : Nat} (hb : b < nB st) (hk : k ≤ mB st b) : gN l st b k < 256 := by
  unfold gN
  rcases gW_or w (l := l) hb hk with e | ⟨v, hv, e⟩
  · rw [e]; decide
  · rw [e, nI_clamp (by omega)]; exact hv
theorem zS_lt {st : Nat → Int32} (w : WF st) {l b : Nat} (hb : b < nB st) : ∀ n, n ≤ mB st b → zS l st b n < 2 ^ (8 * n)
  | 0, _ => by show 0 < 1; omega
  | n + 1, hn => by
    have h1 := zS_lt w (l := l) hb n (by omega)
    have h2 := gN_lt w (l := l) hb (k := n) (by omega)
    show zS l st b n + 2 ^ (8 * n) * gN l st b n < 2 ^ (8 * (n + 1))
    rw [show 8 * (n + 1) = 8 * n + 8 by omega, Nat.pow_add]
    have h3 : 2 ^ (8 * n) * (gN l st b n + 1) ≤ 2 ^ (8 * n) * 2 ^ 8 := Nat.mul_le_mul_left _ (show gN l st b n + 1 ≤ 256 from h2)
    rw [Nat.mul_add, Nat.mul_one] at h3
    omega
theorem upL_n {st : Nat → Int32} (w : WF st) {l b : Nat} (hb : b < nB st) : ∀ n, n ≤ mB st b → (∀ k, k < n → gW l st b k ≠ -6) → upL (gW l st b) n = lN (zS l st b n)
  | 0, _, _ => rfl
  | n + 1, hn, h => by
    show upL (gW l st b) n ||| sl (gW l st b n).toInt64 (8 * n) = lN (zS l st b n + 2 ^ (8 * n) * gN l st b n)
    have e : gW l st b n = nI (gN l st b n) := by
      unfold gN
      rcases gW_or w (l := l) hb (k := n) (by omega) with e | ⟨v, hv, e⟩
      · exact absurd e (h n (by omega))
      · rw [e, nI_clamp (by omega)]
    have h2 := gN_lt w (l := l) hb (k := n) (by omega)
    rw [upL_n w hb n (by omega) (fun k hk => h k (by omega)), e, nI_l (by omega), sl_lN, or_lN (zS_lt w hb n (by omega))]
theorem l_load2 {bl st : Nat → Int32} {me : Nat → Int64} (w : WF st) (L : LB bl me st) {b : Nat} (hb : b < nB st) {l : Nat} (hl : l ≤ 99) : (ld l st b = -6 ∧ den_L_load 48 64 bl me (nI b) (nI l) = some (-6)) ∨ ∃ Z, Z < 2 ^ 24 ∧ upL (gW l st b) (mB st b) = lN Z ∧ ld l st b = nI (wy l st b) ∧ den_L_load 48 64 bl me (nI b) (nI l) = some (lN (4 * Z + wy l st b)) := by
  have h3 := (L.2.1 b hb).1
  obtain ⟨e, h⟩ := l_load w L hb hl
  by_cases c : ld l st b = -6
  · rw [if_pos c] at e
    exact Or.inl ⟨c, e⟩
  · obtain ⟨h1, h2⟩ := h c
    have hu := upL_n w hb (mB st b) (Nat.le_refl _) h2
    have hz := zS_lt w (l := l) hb (mB st b) (Nat.le_refl _)
    have hw : wy l st b < 2 ^ 2 := by rcases wy_3 l st b with e | e | e <;> omega
    refine Or.inr ⟨zS l st b (mB st b), Nat.lt_of_lt_of_le hz (Nat.pow_le_pow_right (by omega) (by omega)), hu, h1, ?_⟩
    rw [e, if_neg c, hu, sl_lN, nI_l (by omega), Int64.or_comm, or_lN hw, Nat.add_comm]
theorem upL_congr {f g : Nat → Int32} : ∀ {n}, (∀ k, k < n → f k = g k) → upL f n = upL g n
  | 0, _ => rfl
  | n + 1, h => by
    show upL f n ||| sl (f n).toInt64 (8 * n) = upL g n ||| sl (g n).toInt64 (8 * n)
    rw [upL_congr (n := n) (fun k hk => h k (by omega)), h n (by omega)]
theorem fdL_g {l : Nat} {st : Nat → Int32} {b : Nat} (h : ld l st b ≠ -6) (f : Nat → Int32) {k : Nat} (hk : k < mB st b) : fdL l st b f k = gW l st b k := by
  unfold fdL gW wy
  by_cases c0 : hw l st b 0 = 0
  · rw [if_pos c0, if_pos c0, if_neg (by omega)]
    unfold fdT bV
    rw [if_pos hk, if_pos (hw0_w c0 hk)]
  · rw [if_neg c0, if_neg c0]
    by_cases c1 : hw l st b 1 = 0
    · rw [if_pos c1, if_pos c1, if_pos rfl]
      unfold fdT
      rw [if_pos hk]
    · rw [if_neg c1, if_neg c1, if_neg (by omega)]
      unfold fdB
      rw [if_pos hk]
theorem a_load {T : TV} {st : Nat → Int32} (r : RTv T st) (R : RV) (B : Nat → Int32) {b : Nat} (hb : b < nB st) : ∃ R', wd_load T R B (nI b) = some (if ld (lB st) st b = -6 then -5 else upL (gW (lB st) st b) (mB st b), R', B) := by
  have w := r.1
  have h16 := w.n16
  have hl := w.l.2
  have h7 := w.m7 hb
  have h1 := w.m1 hb
  obtain ⟨m0, l0, v0, w0, m1, l1, v1, w1, e, T0, T1⟩ := c_wl r hb R.1 R.2.1 R.2.2.1 R.2.2.2.1 R.2.2.2.2.1 R.2.2.2.2.2.1 R.2.2.2.2.2.2.1 R.2.2.2.2.2.2.2
  refine ⟨(m0, l0, v0, w0, m1, l1, v1, w1), ?_⟩
  unfold wd_load den_X6_load
  rw [r.blI, c_isB (by omega), bnd_s, if_pos (isB_t hb (by omega)), if_neg (show ¬ (1 : Int32) = 0 by decide), e, bnd_s]
  by_cases d : ld (lB st) st b = -6
  · rw [if_pos d, if_pos d, bnd_s]
  · have eb := c_bytes_L h7 (fun k hk => c_byteBy r hb T0 T1 hl (fun _ => 0) d hk) (mB st b) FU 0 (Nat.le_refl _) (by rw [FU_eq]; omega)
    rw [sl_z, Int64.zero_or] at eb
    rw [if_neg d, if_neg d, r.lev]
    unfold den_X0_bytesBy
    rw [T0.1, eb, bnd_s, bnd_s, bnd_s, upL_congr (fun k hk => fdL_g d (fun _ => 0) hk)]
theorem most_L {T : TV} {bl st : Nat → Int32} {me : Nat → Int64} (r : RTv T st) (L : LB bl me st) {b : Nat} (hb : b < nB st) {q : RV} (T0 : TD q.1 q.2.1 q.2.2.1 q.2.2.2.1 st b 0) (T1 : TD q.2.2.2.2.1 q.2.2.2.2.2.1 q.2.2.2.2.2.2.1 q.2.2.2.2.2.2.2 st b 1) : ∀ (n fu : Nat), n ≤ 100 → n < fu →
    ∃ y, den_L_same_L876 bl me (nI b) fu (nI n - 1) = some y ∧ den_X6_mostLeast_L28 q fu (nI n - 1) = some (if 0 ≤ y then y else -6, q) := by
  have w := r.1
  have h3 := (L.2.1 b hb).1
  intro n
  induction n with
  | zero =>
    intro fu hn hf
    cases fu with
    | zero => omega
    | succ fu =>
      rw [den_L_same_L876, den_X6_mostLeast_L28, if_pos (show nI 0 - 1 < 0 by decide), if_pos (show nI 0 - 1 < 0 by decide)]
      exact ⟨_, rfl, by rw [if_neg (show ¬ (0 : Int32) ≤ nI 0 - 1 by decide)]⟩
  | succ n ih =>
    intro fu hn hf
    cases fu with
    | zero => omega
    | succ fu =>
      have hw := c_way w hb T0 T1 (l := n) (by omega)
      have hp : nI n + (-1 : Int32) = nI n - 1 := (Int32.sub_eq_add_neg _ _).symm
      rw [den_L_same_L876, den_X6_mostLeast_L28, nI_pred, if_neg (nI_pos (by omega)), if_neg (nI_pos (by omega)), hw, bnd_s, hp]
      rcases l_load2 w L hb (l := n) (by omega) with ⟨c, e⟩ | ⟨Z, hZ, -, c, e⟩
      · rw [e, bnd_s, if_neg (show ¬ (0 : Int32) ≤ lg_cmp (-6) 0 by decide +kernel), if_pos c]
        exact ih fu (by omega) (by omega)
      · have hwy : wy n st b < 4 := by rcases wy_3 n st b with e | e | e <;> omega
        rw [e, bnd_s, if_pos (show (0 : Int32) ≤ lg_cmp (lN (4 * Z + wy n st b)) 0 by
          rw [lg_cmp_ge, show (0 : Int64) = lN 0 from rfl, pk_lLE (by omega) (by omega)]; omega), if_neg (by rw [c]; exact nI_ne6 (by omega))]
        exact ⟨nI n, rfl, by rw [if_pos (show (0 : Int32) ≤ nI n from nI_le (a := 0) (by omega) (by omega))]⟩
theorem a_most {T : TV} {bl st : Nat → Int32} {me : Nat → Int64} (r : RTv T st) (L : LB bl me st) (R : RV) (B : Nat → Int32) {b : Nat} (hb : b < nB st) : ∃ y R', den_L_same_L876 bl me (nI b) FU (99 : Int32) = some y ∧ wd_mostLeast T R B (nI b) = some (if 0 ≤ y then y else -6, R', B) := by
  have w := r.1
  have h16 := w.n16
  obtain ⟨m0, l0, v0, w0, m1, l1, v1, w1, e, T0, T1⟩ := c_rb r hb R.1 R.2.1 R.2.2.1 R.2.2.2.1 R.2.2.2.2.1 R.2.2.2.2.2.1 R.2.2.2.2.2.2.1 R.2.2.2.2.2.2.2
  obtain ⟨y, e1, e2⟩ := most_L r L hb (q := (m0, l0, v0, w0, m1, l1, v1, w1)) T0 T1 100 FU (by omega) (by rw [FU_eq]; omega)
  rw [show nI 100 - 1 = (99 : Int32) by decide] at e1 e2
  refine ⟨y, (m0, l0, v0, w0, m1, l1, v1, w1), e1, ?_⟩
  unfold wd_mostLeast den_X6_mostLeast
  rw [r.blI, c_isB (by omega), bnd_s, if_pos (isB_t hb (by omega)), if_neg (show ¬ (1 : Int32) = 0 by decide), e, bnd_s, e2, bnd_s]
