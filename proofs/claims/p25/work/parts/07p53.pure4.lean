/-! the landed reader against the same words -/
def RT (se : Nat → Int32) (bl : Int32) (na un ma fi vo ba wr st : Nat → Int32) : Prop :=
  WF st ∧ (se 0 = st 0 ∧ se 1 = st 1 ∧ se 2 = st 2) ∧ bl = st 3 ∧ (∀ b, b < nB st → na b = st (4 + 10 * b + 0) ∧ un b = st (4 + 10 * b + 1) ∧ ma b = nI (mB st b)) ∧ (∀ b, b ≤ nB st → fi b = nI (FF st b)) ∧
  (∀ c, c < FF st (nB st) → vo c = nI (cB st c % 128) ∧ ba c = nI (cB st c / 128)) ∧ ∀ b t p, b < nB st → t < 2 → 4 ≤ p → p < tl st b → wr (bs st b t + p) = nI (wb st b (p - 4))
def TD (mn lh : Int32) (va wu st : Nat → Int32) (b t : Nat) : Prop := mn = nI (mB st b) ∧ (∀ l, l ≤ 99 → (nI l ≤ lh ↔ ¬ lost l st b t = true)) ∧ ∀ k, k ≤ mB st b → va k = nI (vN st b t k 8) ∧ ∀ l, l ≤ 99 → (¬ wu k < nI l ↔ whole l st b t k = true)
theorem leI (l : Nat) (hl : l < 2 ^ 31) (x : Int32) : nI l ≤ x ↔ (l : Int) ≤ x.toInt := by rw [le_iff, nI_toInt hl]
theorem nltI (l : Nat) (hl : l < 2 ^ 31) (x : Int32) : ¬ x < nI l ↔ (l : Int) ≤ x.toInt := by
  rw [lt_iff, nI_toInt hl]; omega
theorem toInt_if {c : Prop} [Decidable c] (a b : Int32) : (if c then a else b).toInt = if c then a.toInt else b.toInt := by
  by_cases h : c
  · rw [if_pos h, if_pos h]
  · rw [if_neg h, if_neg h]
theorem c_leader_L {st vo : Nat → Int32} (h : WF st) (hv : ∀ c, c < FF st (nB st) → vo c = nI (cB st c % 128)) {b : Nat} (hb : b < nB st) {t : Nat} (ht : t < 2) :
    ∀ (d fu n : Nat) (y3 y4 : Int32), n + d = 4 → d < fu → (∀ l : Nat, l ≤ 99 → ((l : Int) ≤ y3.toInt ↔ 1 ≤ lc l st (bs st b t) n)) → (∀ l : Nat, l ≤ 99 → ((l : Int) ≤ y4.toInt ↔ 2 ≤ lc l st (bs st b t) n)) →
    ∃ r, den_X5_readLeader_L8 (nI (bs st b t)) vo fu y3 y4 (nI (bs st b t + n)) = some r ∧ ∀ l : Nat, l ≤ 99 → ((l : Int) ≤ r.toInt ↔ 2 ≤ lc l st (bs st b t) 4) := by
  have hF := FF_2464 h (Nat.le_refl _)
  intro d
  induction d with
  | zero =>
    intro fu n y3 y4 hn hf h3 h4
    cases fu with
    | zero => omega
    | succ fu =>
      have : n = 4 := by omega
      subst this
      have hc := cell_in hb ht (p := 3) (by unfold tl; omega)
      refine ⟨y4, ?_, h4⟩
      rw [den_X5_readLeader_L8, li4, nI_add, if_pos (nI_le (Nat.le_refl _) (by omega))]
  | succ d ih =>
    intro fu n y3 y4 hn hf h3 h4
    cases fu with
    | zero => omega
    | succ fu =>
      have hc := cell_in hb ht (p := n) (by unfold tl; omega)
      have hc3 := cell_in hb ht (p := 3) (by unfold tl; omega)
      have hcb := (h.c hc).2.1
      rw [den_X5_readLeader_L8, li4, nI_add, if_neg (nI_ge (by omega) (by omega)), gdI (by omega) (by omega), nI_clamp (by omega), hv _ hc, nm_d, nm_d, nm_d, li1, nI_add]
      refine ih fu (n + 1) _ _ (by omega) (by omega) (fun l hl => ?_) (fun l hl => ?_)
      · have e3 := h3 l hl
        show _ ↔ 1 ≤ lc l st (bs st b t) n + (if l ≤ cB st (bs st b t + n) % 128 then 1 else 0)
        simp only [toInt_if, lt_iff, nI_toInt (show cB st (bs st b t + n) % 128 < 2 ^ 31 by omega)]
        split <;> split <;> omega
      · have e3 := h3 l hl
        have e4 := h4 l hl
        show _ ↔ 2 ≤ lc l st (bs st b t) n + (if l ≤ cB st (bs st b t + n) % 128 then 1 else 0)
        simp only [toInt_if, lt_iff, nI_toInt (show cB st (bs st b t + n) % 128 < 2 ^ 31 by omega)]
        split <;> split <;> split <;> omega
theorem m1_toInt : (-1 : Int32).toInt = -1 := by decide
theorem c_leader {st vo : Nat → Int32} (h : WF st) (hv : ∀ c, c < FF st (nB st) → vo c = nI (cB st c % 128)) {b : Nat} (hb : b < nB st) {t : Nat} (ht : t < 2) (x : Int32) :
    ∃ r, den_X5_readLeader x vo (nI (bs st b t)) = some r ∧ ∀ l : Nat, l ≤ 99 → (nI l ≤ r ↔ ¬ lost l st b t = true) := by
  obtain ⟨r, e, hr⟩ := c_leader_L h hv hb ht 4 FU 0 (-1) (-1) (by omega) (by rw [FU_eq]; omega) (fun l hl => by rw [m1_toInt]; show _ ↔ 1 ≤ 0; omega) (fun l hl => by rw [m1_toInt]; show _ ↔ 2 ≤ 0; omega)
  refine ⟨r, ?_, fun l hl => ?_⟩
  · unfold den_X5_readLeader
    rw [show bs st b t + 0 = bs st b t from rfl] at e
    rw [e, bnd_s]
  · rw [leI l (by omega), hr l hl]
    unfold lost
    rw [decide_eq_true_eq]
    omega
def oN (st : Nat → Int32) (b t k : Nat) : Nat → Nat
  | 0 => 0
  | n + 1 => oN st b t k n + tb st b t (4 + 9 * k + n)
theorem oN_le {st : Nat → Int32} (h : WF st) {b : Nat} (hb : b < nB st) {t k : Nat} (ht : t < 2) (hk : k ≤ mB st b) : ∀ n, n ≤ 9 → oN st b t k n ≤ n
  | 0, _ => Nat.le_refl 0
  | n + 1, hn => by
    have h1 := oN_le h hb ht hk n (by omega)
    have h2 := tb_lt h hb ht (p := 4 + 9 * k + n) (by unfold tl; omega)
    show oN st b t k n + tb st b t (4 + 9 * k + n) ≤ n + 1
    omega
theorem vN_bit {st : Nat → Int32} (h : WF st) {b : Nat} (hb : b < nB st) {t k : Nat} (ht : t < 2) (hk : k ≤ mB st b) : ∀ n, n ≤ 8 → ∀ j, j < n → vN st b t k n / 2 ^ j % 2 = tb st b t (4 + 9 * k + j)
  | 0, _, j, hj => by omega
  | n + 1, hn, j, hj => by
    have h2 := tb_lt h hb ht (p := 4 + 9 * k + n) (by unfold tl; omega)
    have hp : 0 < 2 ^ j := Nat.pow_pos (by omega)
    show (vN st b t k n + 2 ^ n * tb st b t (4 + 9 * k + n)) / 2 ^ j % 2 = _
    by_cases c : j = n
    · subst c
      rw [Nat.add_mul_div_left _ _ hp, Nat.div_eq_of_lt (vN_lt h hb ht hk j (by omega)), Nat.zero_add, Nat.mod_eq_of_lt h2]
    · have ih := vN_bit h hb ht hk n (by omega) j (by omega)
      obtain ⟨d, hd⟩ : ∃ d, n = j + (d + 1) := ⟨n - j - 1, by omega⟩
      rw [show 2 ^ n * tb st b t (4 + 9 * k + n) = 2 ^ j * (2 * (2 ^ d * tb st b t (4 + 9 * k + n))) by rw [hd, Nat.pow_add, Nat.pow_succ]; simp only [Nat.mul_assoc, Nat.mul_comm, Nat.mul_left_comm]]
      rw [Nat.add_mul_div_left _ _ hp, Nat.add_mul_mod_self_left, ih]
theorem sb_oN {st : Nat → Int32} (h : WF st) {b : Nat} (hb : b < nB st) {t k : Nat} (ht : t < 2) (hk : k ≤ mB st b) : ∀ j, j ≤ 8 → sb (vN st b t k 8) j = oN st b t k j
  | 0, _ => rfl
  | j + 1, hj => by
    show sb (vN st b t k 8) j + vN st b t k 8 / 2 ^ j % 2 = oN st b t k j + tb st b t (4 + 9 * k + j)
    rw [sb_oN h hb ht hk j (by omega), vN_bit h hb ht hk 8 (Nat.le_refl _) j (by omega)]
theorem vN_lt9 {st : Nat → Int32} (h : WF st) {b : Nat} (hb : b < nB st) {t k : Nat} (ht : t < 2) (hk : k ≤ mB st b) : ∀ n, n ≤ 9 → vN st b t k n < 2 ^ n
  | 0, _ => by show 0 < 1; omega
  | n + 1, hn => by
    have h1 := vN_lt9 h hb ht hk n (by omega)
    have h2 := tb_lt h hb ht (p := 4 + 9 * k + n) (by unfold tl; omega)
    show vN st b t k n + 2 ^ n * tb st b t (4 + 9 * k + n) < 2 ^ (n + 1)
    rw [Nat.pow_succ]
    have h3 : tb st b t (4 + 9 * k + n) = 0 ∨ tb st b t (4 + 9 * k + n) = 1 := by omega
    rcases h3 with e | e <;> rw [e] <;> omega
theorem c_byte_L {st vo ba wr : Nat → Int32} (h : WF st) (hv : ∀ c, c < FF st (nB st) → vo c = nI (cB st c % 128) ∧ ba c = nI (cB st c / 128)) (hw : ∀ b t p, b < nB st → t < 2 → 4 ≤ p → p < tl st b → wr (bs st b t + p) = nI (wb st b (p - 4))) {b : Nat} (hb : b < nB st) {t k : Nat} (ht : t < 2) (hk : k ≤ mB st b) :
    ∀ (d fu n : Nat) (y4 : Int32), n + d = 9 → d < fu → (∀ l : Nat, l ≤ 99 → ((l : Int) ≤ y4.toInt ↔ hN l st (bs st b t + (4 + 9 * k)) n = true)) →
    ∃ r, den_X5_readByte_L13 (nI (bs st b t + (4 + 9 * k))) vo ba wr fu y4 (nI (vN st b t k n)) (nI (oN st b t k n)) (nI n) = some (r, nI (vN st b t k 9), nI (oN st b t k 9)) ∧ ∀ l : Nat, l ≤ 99 → ((l : Int) ≤ r.toInt ↔ hN l st (bs st b t + (4 + 9 * k)) 9 = true) := by
  have hF := FF_2464 h (Nat.le_refl _)
  intro d
  induction d with
  | zero =>
    intro fu n y4 hn hf h4
    cases fu with
    | zero => omega
    | succ fu =>
      have : n = 9 := by omega
      subst this
      refine ⟨y4, ?_, h4⟩
      rw [den_X5_readByte_L13, li9, if_pos (nI_le (Nat.le_refl _) (by omega))]
  | succ d ih =>
    intro fu n y4 hn hf h4
    cases fu with
    | zero => omega
    | succ fu =>
      have hp : 4 + 9 * k + n < tl st b := by unfold tl; omega
      have hc := cell_in hb ht hp
      have hcb := (h.c hc).2.1
      have h2 := tb_lt h hb ht hp
      have h3 : (2 : Nat) ^ n ≤ 2 ^ 8 := Nat.pow_le_pow_right (by omega) (by omega)
      have h5 : tb st b t (4 + 9 * k + n) * 2 ^ n ≤ 1 * 2 ^ 8 := Nat.mul_le_mul (by omega) h3
      rw [den_X5_readByte_L13, li9, if_neg (nI_ge (by omega) (by omega)), nI_add, show bs st b t + (4 + 9 * k) + n = bs st b t + (4 + 9 * k + n) by omega]
      simp only [gdI (show bs st b t + (4 + 9 * k + n) < 2464 by omega) (show bs st b t + (4 + 9 * k + n) < 2 ^ 31 by omega), nI_clamp (show bs st b t + (4 + 9 * k + n) < 2 ^ 31 by omega), nm_d]
      rw [hw b t _ hb ht (by omega) hp, (hv _ hc).1, (hv _ hc).2, fb_xorI, show wb st b (4 + 9 * k + n - 4) ^^^ cB st (bs st b t + (4 + 9 * k + n)) / 128 = tb st b t (4 + 9 * k + n) from rfl, shlJ (by omega) (by omega), fa_or, or_add (vN_lt9 h hb ht hk n (by omega)), nI_add, li1, nI_add]
      refine ih fu (n + 1) _ (by omega) (by omega) (fun l hl => ?_)
      have e4 := h4 l hl
      have e5 : hN l st (bs st b t + (4 + 9 * k)) (n + 1) = (hN l st (bs st b t + (4 + 9 * k)) n && decide (l ≤ cB st (bs st b t + (4 + 9 * k + n)) % 128)) := by
        show (hN l st _ n && decide (l ≤ cB st (bs st b t + (4 + 9 * k) + n) % 128)) = _
        rw [show bs st b t + (4 + 9 * k) + n = bs st b t + (4 + 9 * k + n) by omega]
      rw [e5, Bool.and_eq_true, decide_eq_true_eq, ← e4]
      simp only [toInt_if, lt_iff, nI_toInt (show cB st (bs st b t + (4 + 9 * k + n)) % 128 < 2 ^ 31 by omega)]
      split <;> omega
theorem c_byte {st vo ba wr : Nat → Int32} (h : WF st) (hv : ∀ c, c < FF st (nB st) → vo c = nI (cB st c % 128) ∧ ba c = nI (cB st c / 128)) (hw : ∀ b t p, b < nB st → t < 2 → 4 ≤ p → p < tl st b → wr (bs st b t + p) = nI (wb st b (p - 4))) {b : Nat} (hb : b < nB st) {t k : Nat} (ht : t < 2) (hk : k ≤ mB st b) (va wu : Nat → Int32) :
    ∃ r, den_X5_readByte va wu vo ba wr (nI (bs st b t + (4 + 9 * k))) (nI k) = some (upd va k (nI (vN st b t k 8)), upd wu k r) ∧ ∀ l : Nat, l ≤ 99 → (¬ r < nI l ↔ whole l st b t k = true) := by
  have h7 := h.m7 hb
  obtain ⟨r, e, hr⟩ := c_byte_L h hv hw hb ht hk 9 FU 0 99 (by omega) (by rw [FU_eq]; omega) (fun l hl => by rw [show (99 : Int32).toInt = 99 by decide]; show _ ↔ true = true; simp; omega)
  rw [show nI (vN st b t k 0) = (0 : Int32) from rfl, show nI (oN st b t k 0) = (0 : Int32) from rfl, show nI 0 = (0 : Int32) from rfl] at e
  have h9 := oN_le h hb ht hk 9 (Nat.le_refl _)
  have hp8 : 4 + 9 * k + 8 < tl st b := by unfold tl; omega
  have ht8 := tb_lt h hb ht hp8
  have hv8 := vN_256 h hb ht hk
  have hso := sb_oN h hb ht hk 8 (Nat.le_refl _)
  have hov : vN st b t k 9 % 256 = vN st b t k 8 := by
    show (vN st b t k 8 + 256 * tb st b t (4 + 9 * k + 8)) % 256 = _
    omega
  have ho9 : oN st b t k 9 = oN st b t k 8 + tb st b t (4 + 9 * k + 8) := rfl
  refine ⟨if oN st b t k 9 % 2 = 0 then r else -1, ?_, fun l hl => ?_⟩
  · unfold den_X5_readByte
    rw [e, bnd_s]
    simp only [gdI (show k < 8 by omega) (show k < 2 ^ 31 by omega), nI_clamp (show k < 2 ^ 31 by omega)]
    rw [li1, and1, li255, and255, hov]
    by_cases c : oN st b t k 9 % 2 = 0
    · rw [if_pos (show nI (oN st b t k 9 % 2) = 0 by rw [c]; rfl), bnd_s, if_neg (by decide), bnd_s, if_pos c]
    · rw [if_neg (show ¬ nI (oN st b t k 9 % 2) = 0 by rw [show oN st b t k 9 % 2 = 1 by omega]; decide), bnd_s, if_pos rfl, bnd_s, if_neg c]
  · unfold whole
    rw [nltI l (by omega), Bool.and_eq_true, decide_eq_true_eq, hso, ← hr l hl, toInt_if, m1_toInt]
    split <;> omega
theorem c_cells_L {st vo ba wr : Nat → Int32} (h : WF st) (hv : ∀ c, c < FF st (nB st) → vo c = nI (cB st c % 128) ∧ ba c = nI (cB st c / 128)) (hw : ∀ b t p, b < nB st → t < 2 → 4 ≤ p → p < tl st b → wr (bs st b t + p) = nI (wb st b (p - 4))) {b : Nat} (hb : b < nB st) {t : Nat} (ht : t < 2) :
    ∀ (d fu k : Nat) (va wu : Nat → Int32), k + d = mB st b + 1 → d < fu → (∀ j, j < k → va j = nI (vN st b t j 8) ∧ ∀ l : Nat, l ≤ 99 → (¬ wu j < nI l ↔ whole l st b t j = true)) →
    ∃ va' wu', den_X5_readCells_L14 (nI (bs st b t)) (nI (mB st b)) vo ba wr fu (nI k) va wu = some (va', wu') ∧ ∀ j, j ≤ mB st b → va' j = nI (vN st b t j 8) ∧ ∀ l : Nat, l ≤ 99 → (¬ wu' j < nI l ↔ whole l st b t j = true) := by
  have h7 := h.m7 hb
  intro d
  induction d with
  | zero =>
    intro fu k va wu hk hf hI
    cases fu with
    | zero => omega
    | succ fu =>
      refine ⟨va, wu, ?_, fun j hj => hI j (by omega)⟩
      rw [den_X5_readCells_L14, if_pos (nI_lt (by omega) (by omega))]
  | succ d ih =>
    intro fu k va wu hk hf hI
    cases fu with
    | zero => omega
    | succ fu =>
      obtain ⟨r, e, hr⟩ := c_byte h hv hw hb ht (k := k) (by omega) va wu
      rw [den_X5_readCells_L14, if_neg (nI_nlt (by omega) (by omega)), li4, li9, nI_add, pk_mul, nI_add, show bs st b t + 4 + k * 9 = bs st b t + (4 + 9 * k) by omega, e, bnd_s, li1, nI_add]
      refine ih fu (k + 1) _ _ (by omega) (by omega) (fun j hj => ?_)
      by_cases c : j = k
      · subst c
        exact ⟨by show upd va j _ j = _; rw [pk_us], fun l hl => by show ¬ upd wu j r j < nI l ↔ _; rw [pk_us]; exact hr l hl⟩
      · have := hI j (by omega)
        exact ⟨by show upd va k _ j = _; rw [pk_un c]; exact this.1, fun l hl => by show ¬ upd wu k r j < nI l ↔ _; rw [pk_un c]; exact this.2 l hl⟩
theorem c_cells {st vo ba wr : Nat → Int32} (h : WF st) (hv : ∀ c, c < FF st (nB st) → vo c = nI (cB st c % 128) ∧ ba c = nI (cB st c / 128)) (hw : ∀ b t p, b < nB st → t < 2 → 4 ≤ p → p < tl st b → wr (bs st b t + p) = nI (wb st b (p - 4))) {b : Nat} (hb : b < nB st) {t : Nat} (ht : t < 2) (mn lh : Int32) (va wu : Nat → Int32) :
    ∃ lh' va' wu', den_X5_readCells mn lh va wu vo ba wr (nI (bs st b t)) (nI (mB st b)) = some (nI (mB st b), lh', va', wu') ∧ TD (nI (mB st b)) lh' va' wu' st b t := by
  obtain ⟨lh', e, hl⟩ := c_leader h (fun c hc => (hv c hc).1) hb ht lh
  obtain ⟨va', wu', e2, h2⟩ := c_cells_L h hv hw hb ht (mB st b + 1) FU 0 va wu (by omega) (by have := h.m7 hb; rw [FU_eq]; omega) (fun j hj => by omega)
  refine ⟨lh', va', wu', ?_, rfl, hl, h2⟩
  unfold den_X5_readCells
  rw [e, bnd_s]
  rw [show nI 0 = (0 : Int32) from rfl] at e2
  rw [e2, bnd_s]
theorem c_lost {mn lh : Int32} {va wu st : Nat → Int32} {b t : Nat} (T : TD mn lh va wu st b t) {l : Nat} (hl : l ≤ 99) : den_X5_isLost lh (nI l) = some (if lost l st b t = true then 1 else 0) := by
  unfold den_X5_isLost
  by_cases c : lost l st b t = true
  · rw [if_pos c, if_neg (fun q => (T.2.1 l hl).mp q c)]
  · rw [if_neg c, if_pos ((T.2.1 l hl).mpr c)]
theorem c_bw {mn lh : Int32} {va wu st : Nat → Int32} {b t : Nat} (h : WF st) (hb : b < nB st) (T : TD mn lh va wu st b t) {l : Nat} (hl : l ≤ 99) {k : Nat} (hk : k ≤ mB st b) : den_X5_isByteWhole wu (nI k) (nI l) = some (if whole l st b t k = true then 1 else 0) := by
  have h7 := h.m7 hb
  have e := (T.2.2 k hk).2 l hl
  unfold den_X5_isByteWhole
  rw [gdI (by omega) (by omega), nI_clamp (by omega)]
  by_cases c : whole l st b t k = true
  · rw [if_pos c, if_neg (e.mpr c)]
  · rw [if_neg c, if_pos (Decidable.not_not.mp (fun q => c (e.mp q)))]
theorem c_sum {mn lh : Int32} {va wu st : Nat → Int32} {b t : Nat} (h : WF st) (hb : b < nB st) (ht : t < 2) (T : TD mn lh va wu st b t) {l : Nat} (hl : l ≤ 99) (s : Nat) : den_X5_tellsSum mn va wu (nI s) (nI l) = some (if rV l st b t (mB st b) = nI (s % 256) then 1 else 0) := by
  have h7 := h.m7 hb
  unfold den_X5_tellsSum
  rw [T.1, c_bw h hb T hl (Nat.le_refl _), bnd_s]
  unfold rV
  by_cases c : whole l st b t (mB st b) = true
  · rw [if_pos c, if_pos c, if_neg (by decide), gdI (by omega) (by omega), nI_clamp (by omega), (T.2.2 _ (Nat.le_refl _)).1, li255, and255]
    by_cases c2 : nI (vN st b t (mB st b) 8) = nI (s % 256)
    · rw [if_pos c2, if_pos c2]
    · rw [if_neg c2, if_neg c2]
  · rw [if_neg c, if_neg c, if_pos rfl, if_neg (fun q => nI_ne6 (n := s % 256) (by omega) q.symm)]
theorem c_state_L {mn lh : Int32} {va wu st : Nat → Int32} {b t : Nat} (h : WF st) (hb : b < nB st) (ht : t < 2) (T : TD mn lh va wu st b t) {l : Nat} (hl : l ≤ 99) : ∀ (d fu k : Nat), k + d = mB st b → d < fu → allW l st b t k = true →
    den_X5_stateBy_L14 (nI l) mn va wu fu (nI (sW st b t k)) (nI k) = some (if allW l st b t (mB st b) = true then (if rV l st b t (mB st b) = nI (sW st b t (mB st b) % 256) then 0 else 3) else 2) := by
  have h7 := h.m7 hb
  intro d
  induction d with
  | zero =>
    intro fu k hk hf ha
    cases fu with
    | zero => omega
    | succ fu =>
      have : k = mB st b := by omega
      subst this
      rw [den_X5_stateBy_L14, T.1, if_pos (nI_le (Nat.le_refl _) (by omega)), if_pos ha]
      have := c_sum h hb ht T hl (sW st b t (mB st b))
      rw [T.1] at this
      rw [this, bnd_s]
      by_cases c : rV l st b t (mB st b) = nI (sW st b t (mB st b) % 256)
      · rw [if_pos c, if_pos c, if_neg (by decide)]
      · rw [if_neg c, if_neg c, if_pos rfl]
  | succ d ih =>
    intro fu k hk hf ha
    cases fu with
    | zero => omega
    | succ fu =>
      rw [den_X5_stateBy_L14, T.1, if_neg (nI_ge (by omega) (by omega)), c_bw h hb T hl (k := k) (by omega), bnd_s]
      by_cases c : whole l st b t k = true
      · rw [if_pos c, if_neg (by decide), gdI (by omega) (by omega), nI_clamp (by omega), (T.2.2 k (by omega)).1, nI_add, li1, nI_add]
        have := ih fu (k + 1) (by omega) (by omega) (by show (allW l st b t k && whole l st b t k) = true; rw [ha, c]; rfl)
        rw [T.1] at this
        exact this
      · rw [if_neg c, if_pos rfl, if_neg]
        intro q
        have : ∀ j, k < j → j ≤ mB st b → ¬ allW l st b t j = true := by
          intro j
          induction j with
          | zero => intro hj; omega
          | succ j ihj =>
            intro hj hm q2
            have q3 : (allW l st b t j && whole l st b t j) = true := q2
            rw [Bool.and_eq_true] at q3
            by_cases e : j = k
            · subst e; exact c q3.2
            · exact ihj (by omega) (by omega) q3.1
        exact this (mB st b) (by omega) (Nat.le_refl _) q
theorem c_state {mn lh : Int32} {va wu st : Nat → Int32} {b t : Nat} (h : WF st) (hb : b < nB st) (ht : t < 2) (T : TD mn lh va wu st b t) {l : Nat} (hl : l ≤ 99) : den_X5_stateBy mn lh va wu (nI l) = some (nI (hw l st b t)) := by
  have h7 := h.m7 hb
  unfold den_X5_stateBy hw
  rw [c_lost T hl, bnd_s]
  by_cases c : lost l st b t = true
  · rw [if_pos c, if_pos c, if_neg (by decide)]; rfl
  · rw [if_neg c, if_neg c, if_pos rfl]
    have := c_state_L h hb ht T hl (mB st b) FU 0 (by omega) (by rw [FU_eq]; omega) rfl
    rw [show nI (sW st b t 0) = (0 : Int32) from rfl, show nI 0 = (0 : Int32) from rfl] at this
    rw [this]
    split
    · split <;> rfl
    · rfl
theorem c_bt {m0 l0 m1 l1 : Int32} {v0 w0 v1 w1 st : Nat → Int32} {b : Nat} (h : WF st) (hb : b < nB st) (T0 : TD m0 l0 v0 w0 st b 0) (T1 : TD m1 l1 v1 w1 st b 1) {l : Nat} (hl : l ≤ 99) {k : Nat} (hk : k ≤ mB st b) : den_X0_byteTogether v0 w0 v1 w1 (nI k) (nI l) = some (bV l st b k) := by
  have h7 := h.m7 hb
  unfold den_X0_byteTogether bV
  rw [c_bw h hb T0 hl hk, bnd_s, c_bw h hb T1 hl hk, bnd_s, gdI (by omega) (by omega), gdI (by omega) (by omega), nI_clamp (by omega), (T0.2.2 k hk).1, (T1.2.2 k hk).1]
  unfold rV
  by_cases c : whole l st b 0 k = true
  · rw [if_pos c, if_neg (by decide), if_pos c, if_pos c]
  · rw [if_neg c, if_pos rfl, if_neg c]
    by_cases c1 : whole l st b 1 k = true
    · rw [if_pos c1, if_neg (by decide), if_pos c1]
    · rw [if_neg c1, if_pos rfl, if_neg c1]
theorem c_tog_L {m0 l0 m1 l1 : Int32} {v0 w0 v1 w1 st : Nat → Int32} {b : Nat} (h : WF st) (hb : b < nB st) (T0 : TD m0 l0 v0 w0 st b 0) (T1 : TD m1 l1 v1 w1 st b 1) {l : Nat} (hl : l ≤ 99) : ∀ (d fu k : Nat), k + d = mB st b → d < fu → allB l st b k = true →
    den_X0_isWholeTogether_L28 (nI l) m0 v0 w0 m1 v1 w1 fu (nI (sB l st b k)) (nI k) = some (if (allB l st b (mB st b) && (decide (rV l st b 0 (mB st b) = nI (sB l st b (mB st b) % 256)) || decide (rV l st b 1 (mB st b) = nI (sB l st b (mB st b) % 256)))) = true then 1 else 0) := by
  have h7 := h.m7 hb
  intro d
  induction d with
  | zero =>
    intro fu k hk hf ha
    cases fu with
    | zero => omega
    | succ fu =>
      have : k = mB st b := by omega
      subst this
      have s0 := c_sum h hb (by omega) T0 hl (sB l st b (mB st b))
      have s1 := c_sum h hb (by omega) T1 hl (sB l st b (mB st b))
      rw [den_X0_isWholeTogether_L28, s0, s1, bnd_s, bnd_s, T0.1, if_pos (nI_le (Nat.le_refl _) (by omega)), ha]
      by_cases c : rV l st b 0 (mB st b) = nI (sB l st b (mB st b) % 256)
      · rw [if_pos c, if_neg (by decide), decide_eq_true c]; rfl
      · rw [if_neg c, if_pos rfl, decide_eq_false c]
        by_cases c1 : rV l st b 1 (mB st b) = nI (sB l st b (mB st b) % 256)
        · rw [if_pos c1, if_neg (by decide), decide_eq_true c1]; rfl
        · rw [if_neg c1, if_pos rfl, decide_eq_false c1]; rfl
  | succ d ih =>
    intro fu k hk hf ha
    cases fu with
    | zero => omega
    | succ fu =>
      rw [den_X0_isWholeTogether_L28, if_neg (show ¬ m0 ≤ nI k by rw [T0.1]; exact nI_ge (by omega) (by omega)), c_bt h hb T0 T1 hl (k := k) (by omega), bnd_s]
      have e6 := bV_6 h (l := l) hb (k := k) (by omega)
      by_cases c : (whole l st b 0 k || whole l st b 1 k) = true
      · rw [if_neg (fun q => e6.mp q c)]
        have e7 : bV l st b k = nI (vB l st b k) := by
          unfold bV vB rV
          by_cases c0 : whole l st b 0 k = true
          · rw [if_pos c0, if_pos c0, if_pos c0]
          · have c1 : whole l st b 1 k = true := by
              rw [Bool.or_eq_true] at c; exact c.resolve_left c0
            rw [if_neg c0, if_neg c0, if_pos c1]
        rw [e7, nI_add, li1, nI_add]
        exact ih fu (k + 1) (by omega) (by omega) (by show (allB l st b k && (whole l st b 0 k || whole l st b 1 k)) = true; rw [ha, c]; rfl)
      · rw [if_pos (e6.mpr c), if_neg]
        intro q
        rw [Bool.and_eq_true] at q
        have : ∀ j, k < j → j ≤ mB st b → ¬ allB l st b j = true := by
          intro j
          induction j with
          | zero => intro hj; omega
          | succ j ihj =>
            intro hj hm q2
            have q3 : (allB l st b j && (whole l st b 0 j || whole l st b 1 j)) = true := q2
            rw [Bool.and_eq_true] at q3
            by_cases e : j = k
            · subst e; exact c q3.2
            · exact ihj (by omega) (by omega) q3.1
        exact this (mB st b) (by omega) (Nat.le_refl _) q.1
theorem c_tog {m0 l0 m1 l1 : Int32} {v0 w0 v1 w1 st : Nat → Int32} {b : Nat} (h : WF st) (hb : b < nB st) (T0 : TD m0 l0 v0 w0 st b 0) (T1 : TD m1 l1 v1 w1 st b 1) {l : Nat} (hl : l ≤ 99) : den_X0_isWholeTogether m0 l0 v0 w0 m1 l1 v1 w1 (nI l) = some (if okB l st b = true then 1 else 0) := by
  have h7 := h.m7 hb
  unfold den_X0_isWholeTogether okB
  rw [c_lost T0 hl, bnd_s, c_lost T1 hl, bnd_s]
  have h2 := c_tog_L h hb T0 T1 hl (mB st b) FU 0 (by omega) (by rw [FU_eq]; omega) rfl
  rw [show nI (sB l st b 0) = (0 : Int32) from rfl, show nI 0 = (0 : Int32) from rfl] at h2
  rw [h2]
  cases lost l st b 0 <;> cases lost l st b 1 <;> simp
theorem c_way {m0 l0 m1 l1 : Int32} {v0 w0 v1 w1 st : Nat → Int32} {b : Nat} (h : WF st) (hb : b < nB st) (T0 : TD m0 l0 v0 w0 st b 0) (T1 : TD m1 l1 v1 w1 st b 1) {l : Nat} (hl : l ≤ 99) : den_X0_wayBy m0 l0 v0 w0 m1 l1 v1 w1 (nI l) = some (ld l st b) := by
  unfold den_X0_wayBy ld
  rw [c_state h hb (by omega) T0 hl, bnd_s, c_state h hb (by omega) T1 hl, bnd_s, c_tog h hb T0 T1 hl, bnd_s, show (0 : Int32) = nI 0 from rfl]
  by_cases c : hw l st b 0 = 0
  · rw [if_pos c, if_pos (hw_0.mpr c)]
  · rw [if_neg c, if_neg (fun q => c (hw_0.mp q))]
    by_cases c2 : hw l st b 1 = 0
    · rw [if_pos c2, if_pos (hw_0.mpr c2)]
    · rw [if_neg c2, if_neg (fun q => c2 (hw_0.mp q))]
      by_cases c3 : okB l st b = true
      · rw [if_pos c3, if_pos c3, if_neg (by decide)]
      · rw [if_neg c3, if_neg c3, if_pos rfl]
