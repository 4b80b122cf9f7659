/-! the sets of blocks -/
def setN (g : Nat → Bool) : Nat → Nat
  | 0 => 0
  | n + 1 => setN g n + (if g n = true then 2 ^ n else 0)
theorem setN_lt (g : Nat → Bool) : ∀ n, setN g n < 2 ^ n
  | 0 => by show 0 < 1; omega
  | n + 1 => by
    have h := setN_lt g n
    show setN g n + (if g n = true then 2 ^ n else 0) < 2 ^ (n + 1)
    rw [Nat.pow_succ]
    split <;> omega
theorem add_bit {a n k : Nat} (ha : a < 2 ^ n) (hk : k < n) (c : Prop) [Decidable c] : (a + (if c then 2 ^ n else 0)) / 2 ^ k % 2 = a / 2 ^ k % 2 := by
  by_cases h : c
  · rw [if_pos h]
    obtain ⟨d, hd⟩ : ∃ d, n = k + (d + 1) := ⟨n - k - 1, by omega⟩
    rw [show 2 ^ n = 2 ^ k * (2 * 2 ^ d) by rw [hd, Nat.pow_add, Nat.pow_succ, Nat.mul_comm (2 ^ d)], Nat.add_mul_div_left _ _ (Nat.pow_pos (by omega)), Nat.add_mul_mod_self_left]
  · rw [if_neg h, Nat.add_zero]
theorem top_bit {a n : Nat} (ha : a < 2 ^ n) (c : Prop) [Decidable c] : (a + (if c then 2 ^ n else 0)) / 2 ^ n % 2 = 1 ↔ c := by
  have hp : 0 < 2 ^ n := Nat.pow_pos (by omega)
  by_cases h : c
  · rw [if_pos h, Nat.add_div_right _ hp, Nat.div_eq_of_lt ha]
    exact ⟨fun _ => h, fun _ => rfl⟩
  · rw [if_neg h, Nat.add_zero, Nat.div_eq_of_lt ha]
    exact ⟨fun q => by omega, fun q => absurd q h⟩
theorem setN_bit {g : Nat → Bool} : ∀ {n k : Nat}, k < n → (setN g n / 2 ^ k % 2 = 1 ↔ g k = true)
  | 0, k, hk => by omega
  | n + 1, k, hk => by
    show (setN g n + (if g n = true then 2 ^ n else 0)) / 2 ^ k % 2 = 1 ↔ _
    by_cases e : k = n
    · subst e; exact top_bit (setN_lt g k) _
    · rw [add_bit (setN_lt g n) (by omega)]
      exact setN_bit (by omega)
theorem orbit {a n : Nat} (ha : a < 2 ^ n) (hn : n < 31) : nI a ||| ((1 : Int32) <<< (nI n &&& 31)) = nI (a + 2 ^ n) := by
  have hp : 2 ^ n < 2 ^ 31 := Nat.pow_lt_pow_right (by omega) hn
  rw [li1, shlJ (by omega) (by omega), fa_or, or_add ha, Nat.mul_one]
theorem bitt {a n : Nat} (ha : a < 2 ^ 31) (hn : n < 31) : (nI a >>> (nI n &&& 31)) &&& (1 : Int32) = (1 : Int32) ↔ a / 2 ^ n % 2 = 1 := by
  rw [shrJ ha (by omega), li1, and1, nI_eq (by omega) (by omega)]
theorem c_holds {a n : Nat} (ha : a < 2 ^ 31) (hn : n < 31) : den_X6_holds (nI a) (nI n) = some (if a / 2 ^ n % 2 = 1 then 1 else 0) := by
  unfold den_X6_holds
  rw [ushrJ (by omega) (by omega), li1, and1]
  by_cases c : a / 2 ^ n % 2 = 1
  · rw [if_pos c, c, if_pos rfl]
  · rw [if_neg c, if_neg (fun q => c ((nI_eq (by omega) (by omega)).mp q))]
def gL (st : Nat → Int32) (md k : Nat) : Bool := if md = 0 then decide (ld (lB st) st k ≠ -6) else decide (ld (lB st) st k = 2)
theorem m_ls_L {st : Nat → Int32} (h : WF st) {md : Nat} (hm : md < 2) : ∀ (d fu k : Nat) (fd : Nat → Int32), k + d = nB st → d < fu →
    ∃ fd', den_X7_loadedSet_L4 (nI md) st fu (nI (setN (gL st md) k)) (nI k) fd = some (nI (setN (gL st md) (nB st)), fd') := by
  have h16 := h.n16
  intro d
  induction d with
  | zero =>
    intro fu k fd hk hf
    cases fu with
    | zero => omega
    | succ fu =>
      have : k = nB st := by omega
      subst this
      rw [den_X7_loadedSet_L4, h.n, if_pos (nI_le (Nat.le_refl _) (by omega))]
      exact ⟨_, rfl⟩
  | succ d ih =>
    intro fu k fd hk hf
    cases fu with
    | zero => omega
    | succ fu =>
      obtain ⟨fd', e⟩ := ih fu (k + 1) (fdL (lB st) st k fd) (by omega) (by omega)
      have hs := setN_lt (gL st md) k
      have hst : ∀ g : Bool, gL st md k = g → nI (setN (gL st md) (k + 1)) = nI (setN (gL st md) k) ||| (if g = true then (1 : Int32) <<< (nI k &&& 31) else 0) := by
        intro g hg
        show nI (setN (gL st md) k + (if gL st md k = true then 2 ^ k else 0)) = _
        rw [hg]
        by_cases c : g = true
        · rw [if_pos c, if_pos c, orbit hs (by omega)]
        · rw [if_neg c, if_neg c, Nat.add_zero, Int32.or_zero]
      refine ⟨fd', ?_⟩
      rw [den_X7_loadedSet_L4, if_neg (show ¬ st 3 ≤ nI k by rw [h.n]; exact nI_ge (by omega) (by omega)), m_loaded h (by omega), bnd_s]
      have eq : (if nI md = (0 : Int32) then (if ld (lB st) st k = -6 then some (0 : Int32) else some ((1 : Int32) <<< (nI k &&& 31))) else (if ld (lB st) st k = 2 then some ((1 : Int32) <<< (nI k &&& 31)) else some 0)) = some (if gL st md k = true then (1 : Int32) <<< (nI k &&& 31) else 0) := by
        unfold gL
        have hm2 : md = 0 ∨ md = 1 := by omega
        rcases hm2 with q | q <;> subst q
        · rw [if_pos (show nI 0 = (0 : Int32) from rfl), if_pos rfl]
          by_cases c : ld (lB st) st k = -6
          · rw [if_pos c, if_neg (fun q => (of_decide_eq_true q) c)]
          · rw [if_neg c, if_pos (decide_eq_true c)]
        · rw [if_neg (show ¬ nI 1 = (0 : Int32) by decide), if_neg (show ¬ 1 = 0 by omega)]
          by_cases c : ld (lB st) st k = 2
          · rw [if_pos c, if_pos (decide_eq_true c)]
          · rw [if_neg c, if_neg (fun q => c (of_decide_eq_true q))]
      rw [eq, bnd_s, ← hst _ rfl, li1, nI_add]
      exact e
theorem m_ls {st : Nat → Int32} (h : WF st) {md : Nat} (hm : md < 2) (fd : Nat → Int32) : ∃ fd', den_X7_loadedSet st fd (nI md) = some (nI (setN (gL st md) (nB st)), fd') := by
  have h16 := h.n16
  obtain ⟨fd', e⟩ := m_ls_L h hm (nB st) FU 0 fd (by omega) (by rw [FU_eq]; omega)
  rw [show nI (setN (gL st md) 0) = (0 : Int32) from rfl, show nI 0 = (0 : Int32) from rfl] at e
  refine ⟨fd', ?_⟩
  unfold den_X7_loadedSet
  rw [e, bnd_s]
theorem c_ls_L {se na un ma fi vo ba wr st : Nat → Int32} {bl : Int32} (r : RT se bl na un ma fi vo ba wr st) {md : Nat} (hm : md < 2) : ∀ (d fu k : Nat) (a0 a1 : Int32) (a2 a3 : Nat → Int32) (a4 a5 : Int32) (a6 a7 : Nat → Int32), k + d = nB st → d < fu →
    ∃ m0 l0 v0 w0 m1 l1 v1 w1, den_X6_loadedBlocks_L4 (nI md) se bl ma fi vo ba wr fu (nI (setN (gL st md) k)) (nI k) a0 a1 a2 a3 a4 a5 a6 a7 = some (nI (setN (gL st md) (nB st)), m0, l0, v0, w0, m1, l1, v1, w1) := by
  have h16 := r.1.n16
  intro d
  induction d with
  | zero =>
    intro fu k a0 a1 a2 a3 a4 a5 a6 a7 hk hf
    cases fu with
    | zero => omega
    | succ fu =>
      have : k = nB st := by omega
      subst this
      rw [den_X6_loadedBlocks_L4, if_pos (show bl ≤ nI (nB st) by rw [r.blI]; exact nI_le (Nat.le_refl _) (by omega))]
      exact ⟨_, _, _, _, _, _, _, _, rfl⟩
  | succ d ih =>
    intro fu k a0 a1 a2 a3 a4 a5 a6 a7 hk hf
    cases fu with
    | zero => omega
    | succ fu =>
      have hs := setN_lt (gL st md) k
      obtain ⟨m0, l0, v0, w0, m1, l1, v1, w1, e, -, -⟩ := c_wl r (b := k) (by omega) a0 a1 a2 a3 a4 a5 a6 a7
      have hI := ih fu (k + 1) m0 l0 v0 w0 m1 l1 v1 w1 (by omega) (by omega)
      rw [den_X6_loadedBlocks_L4, if_neg (show ¬ bl ≤ nI k by rw [r.blI]; exact nI_ge (by omega) (by omega)), e, bnd_s, nm_d, nm_d, orbit hs (by omega), show nI k + (1 : Int32) = nI (k + 1) by rw [li1, nI_add]]
      have e1 : gL st md k = true → nI (setN (gL st md) k + 2 ^ k) = nI (setN (gL st md) (k + 1)) := fun q => by
        show _ = nI (setN (gL st md) k + (if gL st md k = true then 2 ^ k else 0))
        rw [if_pos q]
      have e0 : ¬ gL st md k = true → nI (setN (gL st md) k) = nI (setN (gL st md) (k + 1)) := fun q => by
        show _ = nI (setN (gL st md) k + (if gL st md k = true then 2 ^ k else 0))
        rw [if_neg q, Nat.add_zero]
      have hm2 : md = 0 ∨ md = 1 := by omega
      by_cases c2 : ld (lB st) st k = 2
      · rw [if_pos c2, e1 (by unfold gL; rcases hm2 with q | q <;> subst q <;> simp [c2])]
        exact hI
      · rw [if_neg c2]
        by_cases c6 : ld (lB st) st k = -6
        · rw [if_pos c6, e0 (by unfold gL; rcases hm2 with q | q <;> subst q <;> simp [c6])]
          exact hI
        · rw [if_neg c6]
          rcases hm2 with q | q <;> subst q
          · rw [if_pos (show nI 0 = (0 : Int32) from rfl), e1 (by unfold gL; simp [c6])]
            exact hI
          · rw [if_neg (show ¬ nI 1 = (0 : Int32) by decide), e0 (by unfold gL; simp [c2])]
            exact hI
theorem c_ls {se na un ma fi vo ba wr st : Nat → Int32} {bl : Int32} (r : RT se bl na un ma fi vo ba wr st) {md : Nat} (hm : md < 2) (a0 a1 : Int32) (a2 a3 : Nat → Int32) (a4 a5 : Int32) (a6 a7 : Nat → Int32) :
    ∃ m0 l0 v0 w0 m1 l1 v1 w1, den_X6_loadedBlocks se bl ma fi vo ba wr a0 a1 a2 a3 a4 a5 a6 a7 (nI md) = some (nI (setN (gL st md) (nB st)), m0, l0, v0, w0, m1, l1, v1, w1) := by
  have h16 := r.1.n16
  obtain ⟨m0, l0, v0, w0, m1, l1, v1, w1, e⟩ := c_ls_L r hm (nB st) FU 0 a0 a1 a2 a3 a4 a5 a6 a7 (by omega) (by rw [FU_eq]; omega)
  rw [show nI (setN (gL st md) 0) = (0 : Int32) from rfl, show nI 0 = (0 : Int32) from rfl] at e
  refine ⟨m0, l0, v0, w0, m1, l1, v1, w1, ?_⟩
  unfold den_X6_loadedBlocks
  rw [e, bnd_s]
/-- what is reached, as a number -/
def rS (st : Nat → Int32) : Nat → Nat
  | 0 => 0
  | n + 1 => rS st n + (if ld (lB st) st n ≠ -6 ∧ (st (4 + 10 * n + 1) = -6 ∨ rS st n / 2 ^ (st (4 + 10 * n + 1)).toNatClampNeg % 2 = 1) then 2 ^ n else 0)
theorem rS_1 {st : Nat → Int32} {n : Nat} (h : ld (lB st) st n ≠ -6 ∧ (st (4 + 10 * n + 1) = -6 ∨ rS st n / 2 ^ (st (4 + 10 * n + 1)).toNatClampNeg % 2 = 1)) : rS st (n + 1) = rS st n + 2 ^ n := by
  show rS st n + (if _ then 2 ^ n else 0) = _
  rw [if_pos h]
theorem rS_0 {st : Nat → Int32} {n : Nat} (h : ¬ (ld (lB st) st n ≠ -6 ∧ (st (4 + 10 * n + 1) = -6 ∨ rS st n / 2 ^ (st (4 + 10 * n + 1)).toNatClampNeg % 2 = 1))) : rS st (n + 1) = rS st n := by
  show rS st n + (if _ then 2 ^ n else 0) = _
  rw [if_neg h, Nat.add_zero]
theorem rS_lt (st : Nat → Int32) : ∀ n, rS st n < 2 ^ n
  | 0 => by show 0 < 1; omega
  | n + 1 => by
    have h := rS_lt st n
    by_cases c : ld (lB st) st n ≠ -6 ∧ (st (4 + 10 * n + 1) = -6 ∨ rS st n / 2 ^ (st (4 + 10 * n + 1)).toNatClampNeg % 2 = 1)
    · rw [rS_1 c, Nat.pow_succ]; omega
    · rw [rS_0 c, Nat.pow_succ]; omega
theorem p2_31 {a n : Nat} (ha : a < 2 ^ n) (hn : n ≤ 16) : a < 2 ^ 31 := Nat.lt_of_lt_of_le ha (Nat.pow_le_pow_right (by omega) (by omega))
theorem m_rs_L {st : Nat → Int32} (h : WF st) {q : Int32 × (Nat → Int32)} (hq : q.1 = nI (setN (gL st 0) (nB st))) : ∀ (d fu k : Nat), k + d = nB st → d < fu →
    den_X7_reachedSet_L10 st q fu (nI (rS st k)) (nI k) = some (nI (rS st (nB st))) := by
  have h16 := h.n16
  intro d
  induction d with
  | zero =>
    intro fu k hk hf
    cases fu with
    | zero => omega
    | succ fu =>
      have : k = nB st := by omega
      subst this
      rw [den_X7_reachedSet_L10, h.n, if_pos (nI_le (Nat.le_refl _) (by omega))]
  | succ d ih =>
    intro fu k hk hf
    cases fu with
    | zero => omega
    | succ fu =>
      have hI := ih fu (k + 1) (by omega) (by omega)
      have hs := rS_lt st k
      have hs31 := p2_31 hs (by omega)
      have hb := setN_bit (g := gL st 0) (n := nB st) (k := k) (by omega)
      have hg : gL st 0 k = true ↔ ld (lB st) st k ≠ -6 := by unfold gL; rw [if_pos rfl, decide_eq_true_eq]
      have ht := bitt (a := setN (gL st 0) (nB st)) (n := k) (p2_31 (setN_lt _ _) h16) (by omega)
      rw [hb, hg] at ht
      rw [den_X7_reachedSet_L10, if_neg (show ¬ st 3 ≤ nI k by rw [h.n]; exact nI_ge (by omega) (by omega)), m_part1 st (by omega), bnd_s, hq]
      by_cases c : ld (lB st) st k = -6
      · rw [if_neg (fun q => ht.mp q c), bnd_s, Int32.or_zero, li1, nI_add, ← rS_0 (fun q => q.1 c)]
        exact hI
      · rw [if_pos (ht.mpr c), nm_d]
        by_cases cu : st (4 + 10 * k + 1) = -6
        · rw [if_pos cu, bnd_s, orbit hs (by omega), li1, nI_add, ← rS_1 ⟨c, Or.inl cu⟩]
          exact hI
        · obtain ⟨u, hu, eu⟩ := (h.u (b := k) (by omega)).resolve_left cu
          have hbu := bitt (a := rS st k) (n := u) hs31 (by omega)
          rw [if_neg cu, eu]
          by_cases cr : rS st k / 2 ^ u % 2 = 1
          · rw [if_pos (hbu.mpr cr), bnd_s, orbit hs (by omega), li1, nI_add, ← rS_1 ⟨c, Or.inr (by rw [eu, nI_clamp (by omega)]; exact cr)⟩]
            exact hI
          · rw [if_neg (fun q => cr (hbu.mp q)), bnd_s, Int32.or_zero, li1, nI_add, ← rS_0 (fun q => by
              rcases q.2 with q2 | q2
              · exact cu q2
              · rw [eu, nI_clamp (by omega)] at q2; exact cr q2)]
            exact hI
theorem c_rs_L {se na un ma fi vo ba wr st : Nat → Int32} {bl : Int32} (r : RT se bl na un ma fi vo ba wr st) : ∀ (d fu k : Nat) (a0 a1 : Int32) (a2 a3 : Nat → Int32) (a4 a5 : Int32) (a6 a7 : Nat → Int32), k + d = nB st → d < fu →
    ∃ m0 l0 v0 w0 m1 l1 v1 w1, den_X6_reached_L4 se bl un ma fi vo ba wr fu (nI (rS st k)) (nI k) a0 a1 a2 a3 a4 a5 a6 a7 = some (nI (rS st (nB st)), m0, l0, v0, w0, m1, l1, v1, w1) := by
  have h := r.1
  have h16 := h.n16
  intro d
  induction d with
  | zero =>
    intro fu k a0 a1 a2 a3 a4 a5 a6 a7 hk hf
    cases fu with
    | zero => omega
    | succ fu =>
      have : k = nB st := by omega
      subst this
      rw [den_X6_reached_L4, if_pos (show bl ≤ nI (nB st) by rw [r.blI]; exact nI_le (Nat.le_refl _) (by omega))]
      exact ⟨_, _, _, _, _, _, _, _, rfl⟩
  | succ d ih =>
    intro fu k a0 a1 a2 a3 a4 a5 a6 a7 hk hf
    cases fu with
    | zero => omega
    | succ fu =>
      have hs := rS_lt st k
      have hs31 := p2_31 hs (by omega)
      obtain ⟨m0, l0, v0, w0, m1, l1, v1, w1, e, -, -⟩ := c_wl r (b := k) (by omega) a0 a1 a2 a3 a4 a5 a6 a7
      have hI := ih fu (k + 1) m0 l0 v0 w0 m1 l1 v1 w1 (by omega) (by omega)
      have hI2 := ih fu (k + 1) a0 a1 a2 a3 a4 a5 a6 a7 (by omega) (by omega)
      rw [den_X6_reached_L4, if_neg (show ¬ bl ≤ nI k by rw [r.blI]; exact nI_ge (by omega) (by omega)), gdI (by omega) (by omega), nI_clamp (by omega), r.un (by omega), nm_d, e, bnd_s, nm_d, orbit hs (by omega), show nI k + (1 : Int32) = nI (k + 1) by rw [li1, nI_add]]
      have J : (st (4 + 10 * k + 1) = -6 ∨ rS st k / 2 ^ (st (4 + 10 * k + 1)).toNatClampNeg % 2 = 1) → ∃ m0' l0' v0' w0' m1' l1' v1' w1', (if ld (lB st) st k = -6 then den_X6_reached_L4 se bl un ma fi vo ba wr fu (nI (rS st k)) (nI (k + 1)) m0 l0 v0 w0 m1 l1 v1 w1 else den_X6_reached_L4 se bl un ma fi vo ba wr fu (nI (rS st k + 2 ^ k)) (nI (k + 1)) m0 l0 v0 w0 m1 l1 v1 w1) = some (nI (rS st (nB st)), m0', l0', v0', w0', m1', l1', v1', w1') := by
        intro hc
        by_cases c : ld (lB st) st k = -6
        · rw [if_pos c, ← rS_0 (fun q => q.1 c)]; exact hI
        · rw [if_neg c, ← rS_1 ⟨c, hc⟩]; exact hI
      by_cases cu : st (4 + 10 * k + 1) = -6
      · rw [if_pos cu]
        exact J (Or.inl cu)
      · obtain ⟨u, hu, eu⟩ := (h.u (b := k) (by omega)).resolve_left cu
        rw [if_neg cu, eu, c_holds hs31 (by omega), bnd_s]
        by_cases cr : rS st k / 2 ^ u % 2 = 1
        · rw [if_pos cr, if_neg (show ¬ (1 : Int32) = 0 by decide)]
          exact J (Or.inr (by rw [eu, nI_clamp (by omega)]; exact cr))
        · rw [if_neg cr, if_pos rfl, ← rS_0 (st := st) (n := k) (fun q => by
            rcases q.2 with q2 | q2
            · exact cu q2
            · rw [eu, nI_clamp (by omega)] at q2; exact cr q2)]
          exact hI2
theorem k_reached {se na un ma fi vo ba wr st : Nat → Int32} {bl : Int32} (r : RT se bl na un ma fi vo ba wr st) (a0 a1 : Int32) (a2 a3 : Nat → Int32) (a4 a5 : Int32) (a6 a7 fd : Nat → Int32) :
    ∃ v m0 l0 v0 w0 m1 l1 v1 w1 fd', den_X6_reached se bl un ma fi vo ba wr a0 a1 a2 a3 a4 a5 a6 a7 = some (v, m0, l0, v0, w0, m1, l1, v1, w1) ∧ den_X7_reached st fd = some (v, fd') := by
  have h16 := r.1.n16
  obtain ⟨m0, l0, v0, w0, m1, l1, v1, w1, e⟩ := c_rs_L r (nB st) FU 0 a0 a1 a2 a3 a4 a5 a6 a7 (by omega) (by rw [FU_eq]; omega)
  obtain ⟨fd', e2⟩ := m_ls r.1 (md := 0) (by omega) fd
  have e3 := m_rs_L r.1 (q := (nI (setN (gL st 0) (nB st)), fd')) rfl (nB st) FU 0 (by omega) (by rw [FU_eq]; omega)
  rw [show nI (rS st 0) = (0 : Int32) from rfl, show nI 0 = (0 : Int32) from rfl] at e e3
  rw [show nI 0 = (0 : Int32) from rfl] at e2
  refine ⟨nI (rS st (nB st)), m0, l0, v0, w0, m1, l1, v1, w1, fd', ?_, ?_⟩
  · unfold den_X6_reached
    rw [e, bnd_s]
  · unfold den_X7_reached den_X7_reachedSet
    rw [e2, bnd_s, e3, bnd_s, bnd_s]
