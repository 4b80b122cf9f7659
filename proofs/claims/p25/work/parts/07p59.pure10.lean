/-! read, load -/
theorem k_read {se na un ma fi vo ba wr st : Nat → Int32} {bl : Int32} (r : RT se bl na un ma fi vo ba wr st) (a0 a1 : Int32) (a2 a3 : Nat → Int32) (a4 a5 : Int32) (a6 a7 : Nat → Int32) (p1 p2 p3 : Int32) :
    ∃ v m0 l0 v0 w0 m1 l1 v1 w1, den_X6_read se bl ma fi vo ba wr a0 a1 a2 a3 a4 a5 a6 a7 p1 p2 p3 = some (v, m0, l0, v0, w0, m1, l1, v1, w1) ∧ den_X7_read st p1 p2 p3 = some v := by
  have w := r.1
  have h16 := w.n16
  have hl := w.l.2
  unfold den_X6_read den_X7_read
  rw [r.blI, c_isB (by omega), m_isB w, bnd_s, bnd_s]
  by_cases c : isB (nB st) p1 = true
  · obtain ⟨b, hb, e⟩ := isB_nI c (by omega)
    subst e
    have h7 := w.m7 hb
    rw [if_pos c, if_neg (show ¬ (1 : Int32) = 0 by decide), if_neg (show ¬ (1 : Int32) = 0 by decide), m_part2 st (by omega), bnd_s, m_within, bnd_s, w.m hb]
    by_cases c1 : p3 < 0
    · rw [if_pos c1, if_pos c1, if_pos rfl]
      exact ⟨_, _, _, _, _, _, _, _, _, rfl, rfl⟩
    obtain ⟨k, hk, e⟩ := nI_of c1
    subst e
    rw [if_neg c1, if_neg c1, gdI (by omega) (by omega), nI_clamp (by omega), r.ma hb]
    by_cases c2 : k ≤ mB st b
    · rw [if_pos (nI_le c2 (by omega)), if_neg (nI_nlt c2 (by omega)), if_neg (show ¬ (1 : Int32) = 0 by decide), m_within, bnd_s]
      by_cases c3 : p2 < 0
      · rw [if_pos c3, if_pos c3, if_pos rfl]
        exact ⟨_, _, _, _, _, _, _, _, _, rfl, rfl⟩
      obtain ⟨t, ht, e⟩ := nI_of c3
      subst e
      rw [if_neg c3, if_neg c3]
      by_cases c4 : t < 2
      · obtain ⟨m0, l0, v0, w0, m1, l1, v1, w1, e, T0, T1⟩ := c_rb r hb a0 a1 a2 a3 a4 a5 a6 a7
        rw [if_pos (show nI t < (2 : Int32) from nI_lt (b := 2) c4 (by omega)), if_neg (show ¬ (1 : Int32) < nI t from nI_nlt (b := t) (a := 1) (by omega) (by omega)), if_neg (show ¬ (1 : Int32) = 0 by decide), e, bnd_s, m_lost w hb c4, bnd_s, m_read w hb c4 c2, bnd_s, r.lev]
        have ht2 : t = 0 ∨ t = 1 := by omega
        rcases ht2 with q | q <;> subst q
        · rw [if_pos (show nI 0 = (0 : Int32) from rfl), c_lost T0 hl, bnd_s]
          by_cases d : lost (lB st) st b 0 = true
          · rw [if_pos d, if_neg (show ¬ (1 : Int32) = 0 by decide), if_neg (show ¬ (1 : Int32) = 0 by decide)]
            exact ⟨_, _, _, _, _, _, _, _, _, rfl, rfl⟩
          · rw [if_neg d, if_pos rfl, if_pos rfl, c_bw w hb T0 hl c2, bnd_s]
            unfold rV
            by_cases g : whole (lB st) st b 0 k = true
            · rw [if_pos g, if_pos g, if_neg (show ¬ (1 : Int32) = 0 by decide), gdI (by omega) (by omega), nI_clamp (by omega)]
              exact ⟨_, _, _, _, _, _, _, _, _, rfl, by rw [← (T0.2.2 k c2).1]⟩
            · rw [if_neg g, if_neg g, if_pos rfl]
              exact ⟨_, _, _, _, _, _, _, _, _, rfl, rfl⟩
        · rw [if_neg (show ¬ nI 1 = (0 : Int32) by decide), gd_t (decide_eq_true (show nI 1 = (1 : Int32) from rfl)), c_lost T1 hl, bnd_s]
          by_cases d : lost (lB st) st b 1 = true
          · rw [if_pos d, if_neg (show ¬ (1 : Int32) = 0 by decide), if_neg (show ¬ (1 : Int32) = 0 by decide)]
            exact ⟨_, _, _, _, _, _, _, _, _, rfl, rfl⟩
          · rw [if_neg d, if_pos rfl, if_pos rfl, c_bw w hb T1 hl c2, bnd_s]
            unfold rV
            by_cases g : whole (lB st) st b 1 k = true
            · rw [if_pos g, if_pos g, if_neg (show ¬ (1 : Int32) = 0 by decide), gdI (by omega) (by omega), nI_clamp (by omega)]
              exact ⟨_, _, _, _, _, _, _, _, _, rfl, by rw [← (T1.2.2 k c2).1]⟩
            · rw [if_neg g, if_neg g, if_pos rfl]
              exact ⟨_, _, _, _, _, _, _, _, _, rfl, rfl⟩
      · rw [if_neg (show ¬ nI t < (2 : Int32) from nI_nlt (a := t) (b := 2) (by omega) (by omega)), if_pos (show (1 : Int32) < nI t from nI_lt (a := 1) (by omega) (by omega)), if_pos rfl]
        exact ⟨_, _, _, _, _, _, _, _, _, rfl, rfl⟩
    · rw [if_neg (nI_ge (by omega) (by omega)), if_pos (nI_lt (by omega) (by omega)), if_pos rfl]
      exact ⟨_, _, _, _, _, _, _, _, _, rfl, rfl⟩
  · rw [if_neg c, if_pos rfl, if_pos rfl]
    exact ⟨_, _, _, _, _, _, _, _, _, rfl, rfl⟩
def sl (x : Int64) (n : Nat) : Int64 := Int64.ofBitVec (x.toBitVec <<< n)
theorem sl_bv (x : Int64) (n : Nat) : (sl x n).toBitVec = x.toBitVec <<< n := rfl
theorem sl_or (x y : Int64) (n : Nat) : sl (x ||| y) n = sl x n ||| sl y n := by
  apply Int64.toBitVec_inj.mp
  rw [sl_bv, Int64.toBitVec_or, Int64.toBitVec_or, sl_bv, sl_bv, BitVec.shiftLeft_or_distrib]
theorem sl_sl (x : Int64) (n k : Nat) : sl (sl x n) k = sl x (n + k) := by
  apply Int64.toBitVec_inj.mp
  rw [sl_bv, sl_bv, sl_bv, BitVec.shiftLeft_add]
theorem sl_0 (x : Int64) : sl x 0 = x := by
  apply Int64.toBitVec_inj.mp
  rw [sl_bv, BitVec.shiftLeft_zero]
theorem sl_z (n : Nat) : sl 0 n = 0 := by
  apply Int64.toBitVec_inj.mp
  rw [sl_bv]
  exact BitVec.zero_shiftLeft n
theorem sl_c (x c : Int64) (n : Nat) (h : (c.toBitVec.smod 64).toNat = n) : x <<< c = sl x n := by
  apply Int64.toBitVec_inj.mp
  rw [Int64.toBitVec_shiftLeft, sl_bv, ← h]
  rfl
theorem sl_8 (x : Int64) : x <<< ((8 : Int32).toInt64 &&& 63) = sl x 8 := sl_c x _ 8 (by decide +kernel)
theorem sl_8k (x : Int64) {k : Nat} (hk : k < 8) : x <<< (((8 : Int32) * nI k).toInt64 &&& 63) = sl x (8 * k) := by
  have : k = 0 ∨ k = 1 ∨ k = 2 ∨ k = 3 ∨ k = 4 ∨ k = 5 ∨ k = 6 ∨ k = 7 := by omega
  rcases this with e | e | e | e | e | e | e | e <;> subst e
  · exact sl_c x _ _ (by decide +kernel)
  · exact sl_c x _ _ (by decide +kernel)
  · exact sl_c x _ _ (by decide +kernel)
  · exact sl_c x _ _ (by decide +kernel)
  · exact sl_c x _ _ (by decide +kernel)
  · exact sl_c x _ _ (by decide +kernel)
  · exact sl_c x _ _ (by decide +kernel)
  · exact sl_c x _ _ (by decide +kernel)
def upL (g : Nat → Int32) : Nat → Int64
  | 0 => 0
  | n + 1 => upL g n ||| sl (g n).toInt64 (8 * n)
theorem c_bytes_L {p l : Int32} {v0 w0 v1 w1 g : Nat → Int32} {m : Nat} (hm : m ≤ 7) (hb : ∀ k, k < m → den_X0_byteBy v0 w0 v1 w1 p (nI k) l = some (g k)) : ∀ (n fu : Nat) (y : Int64), n ≤ m → n < fu →
    den_X0_bytesBy_L13 p l v0 w0 v1 w1 fu y (nI n - 1) = some (sl y (8 * n) ||| upL g n) := by
  intro n
  induction n with
  | zero =>
    intro fu y hn hf
    cases fu with
    | zero => omega
    | succ fu =>
      rw [den_X0_bytesBy_L13, if_pos (show nI 0 - 1 < 0 by decide), sl_0]
      show _ = some (y ||| 0)
      rw [Int64.or_zero]
  | succ n ih =>
    intro fu y hn hf
    cases fu with
    | zero => omega
    | succ fu =>
      rw [den_X0_bytesBy_L13, nI_pred, if_neg (nI_pos (by omega)), hb n (by omega), bnd_s, nm_d, sl_8, show nI n + (-1 : Int32) = nI n - 1 from (Int32.sub_eq_add_neg _ _).symm, ih fu _ (by omega) (by omega), sl_or, sl_sl]
      show _ = some (_ ||| (upL g n ||| sl (g n).toInt64 (8 * n)))
      rw [show 8 + 8 * n = 8 * (n + 1) by omega, Int64.or_assoc, Int64.or_comm (sl (g n).toInt64 (8 * n))]
theorem m_load_L {st : Nat → Int32} (h : WF st) {b : Nat} (hb : b < nB st) (q : Int32 × (Nat → Int32)) : ∀ (d fu k : Nat), k + d = mB st b → d < fu →
    den_X7_load_L31 (nI b) st q fu (upL q.2 k) (nI k) = some (upL q.2 (mB st b)) := by
  have h16 := h.n16
  have h7 := h.m7 hb
  intro d
  induction d with
  | zero =>
    intro fu k hk hf
    cases fu with
    | zero => omega
    | succ fu =>
      have : k = mB st b := by omega
      subst this
      rw [den_X7_load_L31, m_part2 st (by omega), bnd_s, h.m hb, if_pos (nI_le (Nat.le_refl _) (by omega))]
  | succ d ih =>
    intro fu k hk hf
    cases fu with
    | zero => omega
    | succ fu =>
      rw [den_X7_load_L31, m_part2 st (by omega), bnd_s, h.m hb, if_neg (nI_ge (by omega) (by omega)), gdI (by omega) (by omega), nI_clamp (by omega), nm_d, sl_8k _ (by omega), li1, nI_add]
      exact ih fu (k + 1) (by omega) (by omega)
theorem allW_w {l : Nat} {st : Nat → Int32} {b t : Nat} : ∀ {n : Nat}, allW l st b t n = true → ∀ {k : Nat}, k < n → whole l st b t k = true
  | 0, _, k, hk => by omega
  | n + 1, h, k, hk => by
    have h2 : (allW l st b t n && whole l st b t n) = true := h
    rw [Bool.and_eq_true] at h2
    by_cases e : k = n
    · subst e; exact h2.2
    · exact allW_w h2.1 (by omega)
theorem hw0_w {l : Nat} {st : Nat → Int32} {b t : Nat} (h : hw l st b t = 0) {k : Nat} (hk : k < mB st b) : whole l st b t k = true := by
  unfold hw at h
  by_cases c : lost l st b t = true
  · rw [if_pos c] at h; omega
  · rw [if_neg c] at h
    by_cases c2 : allW l st b t (mB st b) = true
    · exact allW_w c2 hk
    · rw [if_neg c2] at h; omega
theorem c_byteBy {se na un ma fi vo ba wr st : Nat → Int32} {bl : Int32} {m0 l0 m1 l1 : Int32} {v0 w0 v1 w1 : Nat → Int32} (r : RT se bl na un ma fi vo ba wr st) {b : Nat} (hb : b < nB st) (T0 : TD m0 l0 v0 w0 st b 0) (T1 : TD m1 l1 v1 w1 st b 1) {l : Nat} (hl : l ≤ 99) (f : Nat → Int32) (h6 : ld l st b ≠ -6) {k : Nat} (hk : k < mB st b) : den_X0_byteBy v0 w0 v1 w1 (ld l st b) (nI k) (nI l) = some (fdL l st b f k) := by
  have h7 := r.1.m7 hb
  unfold den_X0_byteBy
  rw [c_bt r.1 hb T0 T1 hl (k := k) (by omega), bnd_s, gdI (by omega) (by omega), gdI (by omega) (by omega), nI_clamp (by omega), (T0.2.2 k (by omega)).1, (T1.2.2 k (by omega)).1]
  unfold ld fdL at *
  by_cases c : hw l st b 0 = 0
  · rw [if_pos c, if_pos c, if_neg (show ¬ (0 : Int32) = 1 by decide), if_pos rfl]
    unfold fdT rV
    rw [if_pos hk, if_pos (hw0_w c hk)]
  · rw [if_neg c] at h6
    rw [if_neg c, if_neg c]
    by_cases c2 : hw l st b 1 = 0
    · rw [if_pos c2, if_pos c2, if_pos rfl]
      unfold fdT rV
      rw [if_pos hk, if_pos (hw0_w c2 hk)]
    · rw [if_neg c2] at h6
      rw [if_neg c2, if_neg c2]
      by_cases c3 : okB l st b = true
      · rw [if_pos c3, if_neg (show ¬ (2 : Int32) = 1 by decide), if_neg (show ¬ (2 : Int32) = 0 by decide)]
        unfold fdB
        rw [if_pos hk]
      · rw [if_neg c3] at h6; exact absurd rfl h6
theorem k_load {se na un ma fi vo ba wr st : Nat → Int32} {bl : Int32} (r : RT se bl na un ma fi vo ba wr st) (a0 a1 : Int32) (a2 a3 : Nat → Int32) (a4 a5 : Int32) (a6 a7 fd : Nat → Int32) (p1 : Int32) :
    ∃ v m0 l0 v0 w0 m1 l1 v1 w1 fd', den_X6_load se bl ma fi vo ba wr a0 a1 a2 a3 a4 a5 a6 a7 p1 = some (v, m0, l0, v0, w0, m1, l1, v1, w1) ∧ den_X7_load st fd p1 = some (v, fd') := by
  have w := r.1
  have h16 := w.n16
  have hl := w.l.2
  unfold den_X6_load den_X7_load
  rw [r.blI, c_isB (by omega), m_isB w, bnd_s, bnd_s]
  by_cases c : isB (nB st) p1 = true
  · obtain ⟨b, hb, e⟩ := isB_nI c (by omega)
    subst e
    have h7 := w.m7 hb
    have h1 := w.m1 hb
    obtain ⟨m0, l0, v0, w0, m1, l1, v1, w1, e, T0, T1⟩ := c_wl r hb a0 a1 a2 a3 a4 a5 a6 a7
    rw [if_pos c, if_neg (show ¬ (1 : Int32) = 0 by decide), if_neg (show ¬ (1 : Int32) = 0 by decide), e, bnd_s, m_loaded w hb, bnd_s]
    by_cases d : ld (lB st) st b = -6
    · rw [if_pos d, if_pos d]
      exact ⟨_, _, _, _, _, _, _, _, _, _, rfl, rfl⟩
    · have eb := c_bytes_L h7 (fun k hk => c_byteBy r hb T0 T1 hl fd d hk) (mB st b) FU 0 (Nat.le_refl _) (by rw [FU_eq]; omega)
      have em := m_load_L w hb (ld (lB st) st b, fdL (lB st) st b fd) (mB st b) FU 0 (by omega) (by rw [FU_eq]; omega)
      rw [sl_z, Int64.zero_or] at eb
      rw [if_neg d, if_neg d, r.lev]
      unfold den_X0_bytesBy
      rw [T0.1, eb, bnd_s, bnd_s, show (0 : Int64) = upL (fdL (lB st) st b fd) 0 from rfl, show (0 : Int32) = nI 0 from rfl, em, bnd_s]
      exact ⟨_, _, _, _, _, _, _, _, _, _, rfl, rfl⟩
  · rw [if_neg c, if_pos rfl, if_pos rfl]
    exact ⟨_, _, _, _, _, _, _, _, _, _, rfl, rfl⟩
