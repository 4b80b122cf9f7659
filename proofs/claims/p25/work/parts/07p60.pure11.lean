/-! a cell -/
theorem blk_of {st : Nat → Int32} : ∀ {n c : Nat}, c < FF st n → ∃ b, b < n ∧ FF st b ≤ c ∧ c < FF st (b + 1)
  | 0, c, h => by have : FF st 0 = 0 := rfl; omega
  | n + 1, c, h => by
    by_cases e : c < FF st n
    · obtain ⟨b, h1, h2⟩ := blk_of e
      exact ⟨b, by omega, h2⟩
    · exact ⟨n, by omega, by omega, h⟩
theorem m_blk_L {st : Nat → Int32} (h : WF st) {b c : Nat} (hb : b < nB st) (h1 : FF st b ≤ c) (h2 : c < FF st (b + 1)) : ∀ (d fu k : Nat), k + d = b → d < fu → den_X7_blockOf_L2 (nI c) st fu (nI k) = some (nI b) := by
  have h16 := h.n16
  have hF := FF_2464 h (b := b + 1) hb
  intro d
  induction d with
  | zero =>
    intro fu k hk hf
    cases fu with
    | zero => omega
    | succ fu =>
      have : k = b := by omega
      subst this
      rw [den_X7_blockOf_L2, li1, nI_add, m_first h (by omega), bnd_s, if_pos (nI_lt h2 (by omega))]
  | succ d ih =>
    intro fu k hk hf
    cases fu with
    | zero => omega
    | succ fu =>
      have hm : FF st (k + 1) ≤ FF st b := FF_mono (by omega)
      rw [den_X7_blockOf_L2, li1, nI_add, m_first h (by omega), bnd_s, if_neg (nI_nlt (by omega) (by omega))]
      exact ih fu (k + 1) (by omega) (by omega)
theorem m_blk {st : Nat → Int32} (h : WF st) {b c : Nat} (hb : b < nB st) (h1 : FF st b ≤ c) (h2 : c < FF st (b + 1)) : den_X7_blockOf st (nI c) = some (nI b) := by
  have h16 := h.n16
  unfold den_X7_blockOf
  rw [show (0 : Int32) = nI 0 from rfl, m_blk_L h hb h1 h2 b FU 0 (by omega) (by rw [FU_eq]; omega), bnd_s]
theorem c_blk_L {se na un ma fi vo ba wr st : Nat → Int32} {bl : Int32} (r : RT se bl na un ma fi vo ba wr st) {b c : Nat} (hb : b < nB st) (h1 : FF st b ≤ c) (h2 : c < FF st (b + 1)) : ∀ (d fu k : Nat), k + d = b → d < fu → den_X4_blockAt_L2 (nI c) bl fi fu (nI k) = some (nI b) := by
  have h := r.1
  have h16 := h.n16
  have hF := FF_2464 h (b := b + 1) hb
  intro d
  induction d with
  | zero =>
    intro fu k hk hf
    cases fu with
    | zero => omega
    | succ fu =>
      have : k = b := by omega
      subst this
      rw [den_X4_blockAt_L2, r.blI, li1, nIs (by omega), nI_add]
      by_cases e : nB st - 1 ≤ k
      · rw [if_pos (nI_le e (by omega))]
      · rw [if_neg (nI_ge (by omega) (by omega)), gdI (by omega) (by omega), nI_clamp (by omega), r.fi (by omega), if_pos (nI_lt h2 (by omega))]
  | succ d ih =>
    intro fu k hk hf
    cases fu with
    | zero => omega
    | succ fu =>
      have hm : FF st (k + 1) ≤ FF st b := FF_mono (by omega)
      rw [den_X4_blockAt_L2, r.blI, li1, nIs (by omega), nI_add, if_neg (nI_ge (by omega) (by omega)), gdI (by omega) (by omega), nI_clamp (by omega), r.fi (by omega), if_neg (nI_nlt (by omega) (by omega)), ← r.blI]
      exact ih fu (k + 1) (by omega) (by omega)
theorem c_blk {se na un ma fi vo ba wr st : Nat → Int32} {bl : Int32} (r : RT se bl na un ma fi vo ba wr st) {b c : Nat} (hb : b < nB st) (h1 : FF st b ≤ c) (h2 : c < FF st (b + 1)) : den_X4_blockAt bl fi (nI c) = some (nI b) := by
  have h16 := r.1.n16
  unfold den_X4_blockAt
  rw [show (0 : Int32) = nI 0 from rfl, c_blk_L r hb h1 h2 b FU 0 (by omega) (by rw [FU_eq]; omega), bnd_s]
theorem c_tl {se na un ma fi vo ba wr st : Nat → Int32} {bl : Int32} (r : RT se bl na un ma fi vo ba wr st) {b : Nat} (hb : b < nB st) : den_X4_tellingCells ma (nI b) = some (nI (tl st b)) := by
  have h16 := r.1.n16
  unfold den_X4_tellingCells tl
  rw [gdI (by omega) (by omega), nI_clamp (by omega), r.ma hb, li1, nI_add, li9, pk_mul, li4, nI_add, Nat.mul_comm 9]
theorem part_3 {o t : Nat} (ht : 2 ≤ t) (ho : o < 2 * t + 2) : (o < t ∧ o / t = 0) ∨ (t ≤ o ∧ o < 2 * t ∧ o / t = 1) ∨ (2 * t ≤ o ∧ o / t = 2) := by
  by_cases c : o < t
  · exact Or.inl ⟨c, Nat.div_eq_of_lt c⟩
  · by_cases c2 : o < 2 * t
    · exact Or.inr (Or.inl ⟨by omega, c2, Nat.div_eq_of_lt_le (by omega) (by omega)⟩)
    · exact Or.inr (Or.inr ⟨by omega, Nat.div_eq_of_lt_le (by omega) (by omega)⟩)
theorem c_part {se na un ma fi vo ba wr st : Nat → Int32} {bl : Int32} (r : RT se bl na un ma fi vo ba wr st) {b c : Nat} (hb : b < nB st) (h1 : FF st b ≤ c) (h2 : c < FF st (b + 1)) : den_X4_partAt bl ma fi (nI c) = some (nI ((c - FF st b) / tl st b)) := by
  have h := r.1
  have h16 := h.n16
  have ht := tl_le h hb
  have ht2 : 2 ≤ tl st b := by unfold tl; omega
  have hF := FF_2464 h (b := b + 1) hb
  rw [FF_s] at h2 hF
  unfold den_X4_partAt
  rw [c_blk r hb h1 (by rw [FF_s]; exact h2), bnd_s, gdI (by omega) (by omega), c_tl r hb, bnd_s, nI_clamp (by omega), r.fi (by omega), nIs h1, li2, pk_mul]
  rcases part_3 ht2 (show c - FF st b < 2 * tl st b + 2 by omega) with ⟨q, e⟩ | ⟨q, q2, e⟩ | ⟨q, e⟩
  · rw [if_neg (nI_ge q (by omega)), e]; rfl
  · rw [if_pos (nI_le q (by omega)), if_neg (nI_ge q2 (by omega)), e]; rfl
  · rw [if_pos (nI_le (by omega) (by omega)), if_pos (nI_le q (by omega)), e]
theorem m_part_in {st : Nat → Int32} (h : WF st) {b c : Nat} (hb : b < nB st) (h1 : FF st b ≤ c) (h2 : c < FF st (b + 1)) : den_X7_whereIn st (nI c) = some (nI ((c - FF st b) / tl st b)) := by
  have h16 := h.n16
  have ht := tl_le h hb
  have ht2 : 2 ≤ tl st b := by unfold tl; omega
  have hF := FF_2464 h (b := b + 1) hb
  unfold den_X7_whereIn
  rw [m_blk h hb h1 h2, bnd_s, m_first h (by omega), bnd_s, m_tl h hb, bnd_s, gd_t (decide_eq_true (show ¬ nI (tl st b) = 0 by rw [nI_0iff (by omega)]; omega)), nIs h1, pk_div (by omega) (by omega) (by omega)]
theorem k_bit {se na un ma fi vo ba wr st : Nat → Int32} {bl : Int32} (r : RT se bl na un ma fi vo ba wr st) {b c : Nat} (hb : b < nB st) (h1 : FF st b ≤ c) (h2 : c < FF st (b + 1)) : ∃ q, den_X4_bitAt bl ma fi ba wr (nI c) = some q ∧ den_X7_bitOf st (nI c) = some q := by
  have h := r.1
  have h16 := h.n16
  have ht := tl_le h hb
  have ht2 : 2 ≤ tl st b := by unfold tl; omega
  have hF := FF_2464 h (b := b + 1) hb
  have hd := Nat.div_add_mod (c - FF st b) (tl st b)
  have hm := Nat.mod_lt (c - FF st b) (show 0 < tl st b by omega)
  have hp : (c - FF st b) / tl st b * tl st b ≤ c - FF st b := Nat.div_mul_le_self _ _
  have hmc : c - FF st b - (c - FF st b) / tl st b * tl st b = (c - FF st b) % tl st b := by rw [Nat.mul_comm] at hp ⊢; omega
  have hpc : (c - FF st b) / tl st b < 3 := by
    have h3 := part_3 ht2 (show c - FF st b < 2 * tl st b + 2 by rw [FF_s] at h2; omega)
    omega
  unfold den_X4_bitAt den_X7_bitOf
  rw [c_blk r hb h1 h2, bnd_s, c_part r hb h1 h2, bnd_s, gdI (by omega) (by omega), c_tl r hb, bnd_s, nI_clamp (by omega), r.fi (by omega), nIs h1, pk_mul, nIs hp, hmc, nm_d]
  rw [m_blk h hb h1 h2, bnd_s, m_part_in h hb h1 h2, bnd_s]
  by_cases e2 : (c - FF st b) / tl st b = 2
  · rw [if_pos (show nI ((c - FF st b) / tl st b) = (2 : Int32) by rw [e2]; rfl), if_pos (show nI ((c - FF st b) / tl st b) = (2 : Int32) by rw [e2]; rfl)]
    exact ⟨_, rfl, rfl⟩
  · have e3 : ¬ nI ((c - FF st b) / tl st b) = (2 : Int32) := by rw [li2, nI_eq (by omega) (by omega)]; exact e2
    rw [if_neg e3, if_neg e3, m_first h (by omega), bnd_s, m_tl h hb, bnd_s, gd_t (decide_eq_true (show ¬ nI (tl st b) = 0 by rw [nI_0iff (by omega)]; omega)), nIs h1, pk_rem (by omega) (by omega) (by omega)]
    by_cases e4 : 4 ≤ (c - FF st b) % tl st b
    · have hcc : bs st b ((c - FF st b) / tl st b) + (c - FF st b) % tl st b = c := by unfold bs; rw [Nat.mul_comm] at hp ⊢; omega
      have hw := r.2.2.2.2.2.2 b ((c - FF st b) / tl st b) ((c - FF st b) % tl st b) hb (by omega) e4 hm
      rw [hcc] at hw
      have hcF : c < FF st (nB st) := by have := FF_mono (st := st) (show b + 1 ≤ nB st from hb); omega
      rw [if_pos (by rw [li4]; exact nI_le e4 (by omega)), gdI (by omega) (by omega), gdI (by omega) (by omega), m_bit h hb (by omega) e4 hm, bnd_s, nI_clamp (by omega), hw, (r.2.2.2.2.2.1 c hcF).2, fb_xorI]
      refine ⟨_, rfl, ?_⟩
      unfold tb
      rw [hcc]
    · rw [if_neg (by rw [li4]; exact nI_ge (by omega) (by omega))]
      unfold den_X7_bitAt
      rw [if_neg (by rw [li4]; exact nI_ge (by omega) (by omega)), bnd_s]
      exact ⟨_, rfl, rfl⟩
theorem k_cell {se na un ma fi vo ba wr st : Nat → Int32} {bl : Int32} (r : RT se bl na un ma fi vo ba wr st) (p1 p2 : Int32) : ∃ v, den_X6_cell se bl ma fi vo ba wr p1 p2 = some v ∧ den_X7_cell st p1 p2 = some v := by
  have w := r.1
  have h16 := w.n16
  have hF := FF_2464 w (Nat.le_refl _)
  unfold den_X6_cell den_X7_cell
  rw [c_isC r, m_isC w, bnd_s, bnd_s]
  by_cases c : isB (FF st (nB st)) p1 = true
  · obtain ⟨k, hk, e⟩ := isB_nI c hF
    subst e
    have hcc := r.2.2.2.2.2.1 k hk
    obtain ⟨b, hb, h1, h2⟩ := blk_of hk
    rw [if_pos c, if_neg (show ¬ (1 : Int32) = 0 by decide), if_neg (show ¬ (1 : Int32) = 0 by decide)]
    by_cases d0 : p2 = 0
    · rw [if_pos d0, if_pos d0, gdI (by omega) (by omega), nI_clamp (by omega), hcc.1, m_vol w hk, bnd_s]
      exact ⟨_, rfl, rfl⟩
    rw [if_neg d0, if_neg d0]
    by_cases d1 : p2 = 1
    · rw [if_pos d1, if_pos d1, gdI (by omega) (by omega), nI_clamp (by omega), hcc.2, m_bad w hk, bnd_s]
      exact ⟨_, rfl, rfl⟩
    rw [if_neg d1, if_neg d1]
    by_cases d2 : p2 = 2
    · obtain ⟨q, e1, e2⟩ := k_bit r hb h1 h2
      rw [if_pos d2, if_pos d2, e1, e2, bnd_s]
      exact ⟨_, rfl, rfl⟩
    rw [if_neg d2, if_neg d2]
    by_cases d3 : p2 = 3
    · rw [if_pos d3, if_pos d3, c_blk r hb h1 h2, m_blk w hb h1 h2, bnd_s]
      exact ⟨_, rfl, rfl⟩
    rw [if_neg d3, if_neg d3]
    by_cases d4 : p2 = 4
    · rw [if_pos d4, if_pos d4, c_part r hb h1 h2, m_part_in w hb h1 h2, bnd_s]
      exact ⟨_, rfl, rfl⟩
    rw [if_neg d4, if_neg d4]
    by_cases d5 : p2 = 5
    · rw [if_pos d5, if_pos d5]
      unfold den_X4_counterOf den_X7_counterOf
      rw [r.2.1.2.2, bnd_s]
      exact ⟨_, rfl, rfl⟩
    rw [if_neg d5, if_neg d5]
    exact ⟨_, rfl, rfl⟩
  · rw [if_neg c, if_pos rfl, if_pos rfl]
    exact ⟨_, rfl, rfl⟩
