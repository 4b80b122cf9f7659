/-! plain functions of numbers: how the words bnd, gd, nm go, and numbers of the machine as numbers of nature -/
theorem bnd_s {α β : Type} (a : α) (f : α → Option β) : bnd (some a) f = f a := rfl
theorem bnd_n {α β : Type} (f : α → Option β) : bnd none f = none := rfl
theorem nm_d {α β : Type} (a : α) (f : α → β) : nm a f = f a := rfl
theorem bnd_ite {α β : Type} {c : Prop} [Decidable c] (a b : Option α) (f : α → Option β) : bnd (if c then a else b) f = if c then bnd a f else bnd b f := by
  by_cases h : c
  · rw [if_pos h, if_pos h]
  · rw [if_neg h, if_neg h]
theorem gdI {α : Type} {k n : Nat} {x : Option α} (h : k < n) (hk : k < 2 ^ 31) : gd (inb (nI k) n) x = x := gd_t (by
  unfold inb
  rw [nI_clamp hk, Bool.and_eq_true]
  exact ⟨decide_eq_true (nI_pos hk), decide_eq_true h⟩)
theorem isZ0 : isZ 0 = true := rfl
theorem isZ1 : isZ 1 = true := rfl
theorem li0 : (0 : Int32) = nI 0 := rfl
theorem li1 : (1 : Int32) = nI 1 := rfl
theorem li2 : (2 : Int32) = nI 2 := rfl
theorem li3 : (3 : Int32) = nI 3 := rfl
theorem li4 : (4 : Int32) = nI 4 := rfl
theorem li5 : (5 : Int32) = nI 5 := rfl
theorem li6 : (6 : Int32) = nI 6 := rfl
theorem li7 : (7 : Int32) = nI 7 := rfl
theorem li8 : (8 : Int32) = nI 8 := rfl
theorem li9 : (9 : Int32) = nI 9 := rfl
theorem li10 : (10 : Int32) = nI 10 := rfl
theorem li16 : (16 : Int32) = nI 16 := rfl
theorem li20 : (20 : Int32) = nI 20 := rfl
theorem li99 : (99 : Int32) = nI 99 := rfl
theorem li100 : (100 : Int32) = nI 100 := rfl
theorem li128 : (128 : Int32) = nI 128 := rfl
theorem li164 : (164 : Int32) = nI 164 := rfl
theorem li255 : (255 : Int32) = nI 255 := rfl
theorem li256 : (256 : Int32) = nI 256 := rfl
theorem li1000 : (1000 : Int32) = nI 1000 := rfl
theorem fa_and (a b : Nat) : nI a &&& nI b = nI (a &&& b) := by
  apply Int32.toBitVec_inj.1
  show BitVec.ofNat 32 a &&& BitVec.ofNat 32 b = BitVec.ofNat 32 (a &&& b)
  apply BitVec.eq_of_getLsbD_eq
  intro i hi
  simp [hi]
theorem fa_or (a b : Nat) : nI a ||| nI b = nI (a ||| b) := by
  apply Int32.toBitVec_inj.1
  show BitVec.ofNat 32 a ||| BitVec.ofNat 32 b = BitVec.ofNat 32 (a ||| b)
  apply BitVec.eq_of_getLsbD_eq
  intro i hi
  simp [hi]
theorem fb_xorI (a b : Nat) : nI a ^^^ nI b = nI (a ^^^ b) := by
  apply Int32.toBitVec_inj.1
  show BitVec.ofNat 32 a ^^^ BitVec.ofNat 32 b = BitVec.ofNat 32 (a ^^^ b)
  apply BitVec.eq_of_getLsbD_eq
  intro i hi
  simp [hi]
theorem and1 (a : Nat) : nI a &&& nI 1 = nI (a % 2) := by rw [fa_and, Nat.and_one_is_mod]
theorem and255 (a : Nat) : nI a &&& nI 255 = nI (a % 256) := by
  rw [fa_and, show (255 : Nat) = 2 ^ 8 - 1 from rfl, Nat.and_two_pow_sub_one_eq_mod]
theorem s_l : ∀ n, n < 32 → ((nI n &&& 31).toBitVec.smod 32).toNat = n := by decide +kernel
theorem s_u : ∀ n, n < 32 → (((nI n).toUInt32 &&& Int32.toUInt32 31).toBitVec % 32).toNat = n := by decide +kernel
theorem shrJ {n j : Nat} (h : n < 2 ^ 31) (hj : j < 32) : nI n >>> (nI j &&& 31) = nI (n / 2 ^ j) := pk_shrN h _ j (s_l j hj)
theorem shlJ {n j : Nat} (hj : j < 32) (h : n * 2 ^ j < 2 ^ 32) : nI n <<< (nI j &&& 31) = nI (n * 2 ^ j) := pk_shlN _ j (s_l j hj) h
theorem ushrJ {n j : Nat} (h : n < 2 ^ 32) (hj : j < 32) : ((nI n).toUInt32 >>> ((nI j).toUInt32 &&& Int32.toUInt32 31)).toInt32 = nI (n / 2 ^ j) := pk_ushrN h _ j (s_u j hj)
/-! the state of the reference as numbers -/
def nB (st : Nat → Int32) : Nat := (st 3).toNatClampNeg
def mB (st : Nat → Int32) (b : Nat) : Nat := (st (4 + 10 * b + 2)).toNatClampNeg
def yB (st : Nat → Int32) (b k : Nat) : Nat := (st (4 + 10 * b + (3 + k))).toNatClampNeg
def cB (st : Nat → Int32) (c : Nat) : Nat := (st (164 + c)).toNatClampNeg
def lB (st : Nat → Int32) : Nat := (st 1).toNatClampNeg
def tl (st : Nat → Int32) (b : Nat) : Nat := 4 + 9 * (mB st b + 1)
def FF (st : Nat → Int32) : Nat → Nat
  | 0 => 0
  | b + 1 => FF st b + (2 * tl st b + 2)
def WFb (st : Nat → Int32) (b : Nat) : Prop := st (4 + 10 * b + 2) = nI (mB st b) ∧ 1 ≤ mB st b ∧ mB st b ≤ 7 ∧ (st (4 + 10 * b + 1) = -6 ∨ ∃ u, u < b ∧ st (4 + 10 * b + 1) = nI u) ∧ ∀ k, k < 7 → st (4 + 10 * b + (3 + k)) = nI (yB st b k) ∧ yB st b k < 256
def WF (st : Nat → Int32) : Prop := st 3 = nI (nB st) ∧ nB st ≤ 16 ∧ (∀ b, b < nB st → WFb st b) ∧ (∀ c, c < FF st (nB st) → st (164 + c) = nI (cB st c) ∧ cB st c < 256 ∧ cB st c % 128 ≤ 99) ∧ st 1 = nI (lB st) ∧ lB st ≤ 99 ∧ (∃ a, a ≤ 99 ∧ st 0 = nI a) ∧ ∃ a, a ≤ 20 ∧ st 2 = nI a
theorem WF.n {st : Nat → Int32} (h : WF st) : st 3 = nI (nB st) := h.1
theorem WF.n16 {st : Nat → Int32} (h : WF st) : nB st ≤ 16 := h.2.1
theorem WF.m {st : Nat → Int32} (h : WF st) {b : Nat} (hb : b < nB st) : st (4 + 10 * b + 2) = nI (mB st b) := (h.2.2.1 b hb).1
theorem WF.m1 {st : Nat → Int32} (h : WF st) {b : Nat} (hb : b < nB st) : 1 ≤ mB st b := (h.2.2.1 b hb).2.1
theorem WF.m7 {st : Nat → Int32} (h : WF st) {b : Nat} (hb : b < nB st) : mB st b ≤ 7 := (h.2.2.1 b hb).2.2.1
theorem WF.u {st : Nat → Int32} (h : WF st) {b : Nat} (hb : b < nB st) : st (4 + 10 * b + 1) = -6 ∨ ∃ u, u < b ∧ st (4 + 10 * b + 1) = nI u := (h.2.2.1 b hb).2.2.2.1
theorem WF.y {st : Nat → Int32} (h : WF st) {b : Nat} (hb : b < nB st) {k : Nat} (hk : k < 7) : st (4 + 10 * b + (3 + k)) = nI (yB st b k) ∧ yB st b k < 256 := (h.2.2.1 b hb).2.2.2.2 k hk
theorem WF.c {st : Nat → Int32} (h : WF st) {c : Nat} (hc : c < FF st (nB st)) : st (164 + c) = nI (cB st c) ∧ cB st c < 256 ∧ cB st c % 128 ≤ 99 := h.2.2.2.1 c hc
theorem WF.l {st : Nat → Int32} (h : WF st) : st 1 = nI (lB st) ∧ lB st ≤ 99 := ⟨h.2.2.2.2.1, h.2.2.2.2.2.1⟩
theorem FF_mono {st : Nat → Int32} : ∀ {a b : Nat}, a ≤ b → FF st a ≤ FF st b := by
  intro a b h
  induction b with
  | zero => have : a = 0 := by omega
            subst this; exact Nat.le_refl _
  | succ b ih =>
    by_cases e : a = b + 1
    · subst e; exact Nat.le_refl _
    · have := ih (by omega)
      show FF st a ≤ FF st b + (2 * tl st b + 2)
      omega
theorem FF_le {st : Nat → Int32} (h : WF st) : ∀ {b : Nat}, b ≤ nB st → FF st b ≤ 154 * b := by
  intro b
  induction b with
  | zero => intro _; exact Nat.le_refl _
  | succ b ih =>
    intro hb
    have h1 := ih (by omega)
    have h2 := h.m7 (b := b) (by omega)
    show FF st b + (2 * tl st b + 2) ≤ 154 * (b + 1)
    unfold tl; omega
theorem FF_2464 {st : Nat → Int32} (h : WF st) {b : Nat} (hb : b ≤ nB st) : FF st b ≤ 2464 := by
  have h1 := FF_le h hb
  have h2 := h.n16
  omega
theorem FF_s {st : Nat → Int32} (b : Nat) : FF st (b + 1) = FF st b + (2 * tl st b + 2) := rfl
theorem tl_le {st : Nat → Int32} (h : WF st) {b : Nat} (hb : b < nB st) : tl st b ≤ 76 := by
  have := h.m7 hb
  unfold tl; omega
/-! the reference's leaves -/
theorem m_within (p lo hi : Int32) : den_X7_within p lo hi = some (if p < lo then 0 else if hi < p then 0 else 1) := by
  unfold den_X7_within
  by_cases h1 : p < lo
  · rw [if_pos h1, if_pos h1]
  · rw [if_neg h1, if_neg h1]
    by_cases h2 : hi < p
    · rw [if_pos h2, if_pos h2]
    · rw [if_neg h2, if_neg h2]
theorem m_part (st : Nat → Int32) {b k : Nat} (hb : b < 16) (hk : k < 10) : den_X7_part st (nI b) (nI k) = some (st (4 + 10 * b + k)) := by
  unfold den_X7_part
  simp (disch := omega) only [li4, li10, pk_mul, nI_add, gdI, nI_clamp]
theorem m_part2 (st : Nat → Int32) {b : Nat} (hb : b < 16) : den_X7_part st (nI b) (2 : Int32) = some (st (4 + 10 * b + 2)) := m_part st hb (k := 2) (by omega)
theorem m_part1 (st : Nat → Int32) {b : Nat} (hb : b < 16) : den_X7_part st (nI b) (1 : Int32) = some (st (4 + 10 * b + 1)) := m_part st hb (k := 1) (by omega)
theorem m_tl {st : Nat → Int32} (h : WF st) {b : Nat} (hb : b < nB st) : den_X7_tellingSize st (nI b) = some (nI (tl st b)) := by
  have h1 := h.n16
  unfold den_X7_tellingSize
  rw [m_part2 st (by omega), bnd_s, h.m hb]
  simp only [li4, li9, li1, nI_add, pk_mul, tl]
theorem m_cells {st : Nat → Int32} (h : WF st) {b : Nat} (hb : b < nB st) : den_X7_cellsOf st (nI b) = some (nI (2 * tl st b + 2)) := by
  unfold den_X7_cellsOf
  rw [m_tl h hb, bnd_s]
  simp only [li2, nI_add, pk_mul]
theorem m_first_L {st : Nat → Int32} (h : WF st) {b : Nat} (hb : b ≤ nB st) : ∀ (d fu k : Nat), k + d = b → d < fu → den_X7_firstOf_L4 (nI b) st fu (nI (FF st k)) (nI k) = some (nI (FF st b)) := by
  have h1 := h.n16
  intro d
  induction d with
  | zero =>
    intro fu k hk hf
    cases fu with
    | zero => omega
    | succ fu =>
      have : k = b := by omega
      subst this
      rw [den_X7_firstOf_L4, if_pos (nI_le (Nat.le_refl _) (by omega))]
  | succ d ih =>
    intro fu k hk hf
    cases fu with
    | zero => omega
    | succ fu =>
      rw [den_X7_firstOf_L4, if_neg (nI_ge (by omega) (by omega)), m_cells h (by omega), bnd_s, nI_add, li1, nI_add]
      exact ih fu (k + 1) (by omega) (by omega)
theorem m_first {st : Nat → Int32} (h : WF st) {b : Nat} (hb : b ≤ nB st) : den_X7_firstOf st (nI b) = some (nI (FF st b)) := by
  have h1 := h.n16
  unfold den_X7_firstOf
  rw [show ((0 : Int32)) = nI 0 from rfl, show nI 0 = nI (FF st 0) from rfl]
  have := m_first_L h hb b FU 0 (by omega) (by rw [FU_eq]; omega)
  rw [show nI (FF st 0) = nI 0 from rfl] at this ⊢
  rw [this, bnd_s]
theorem m_all {st : Nat → Int32} (h : WF st) : den_X7_allCells st = some (nI (FF st (nB st))) := by
  unfold den_X7_allCells
  rw [h.n, m_first h (Nat.le_refl _), bnd_s]
def isB (n : Nat) (p : Int32) : Bool := decide (¬ p < 0) && decide (p.toNatClampNeg < n)
theorem isB_nI {n : Nat} {p : Int32} (h : isB n p = true) (hn : n ≤ 2464) : ∃ b, b < n ∧ p = nI b := by
  obtain ⟨j, hj, e⟩ := vp_in_of (n := n) (inb_in h) (by omega)
  exact ⟨j, hj, e⟩
theorem clamp_nonneg {p : Int32} (h : ¬ p < 0) : p.toInt = (p.toNatClampNeg : Int) := by
  have h0 := Int32.not_lt.mp h
  have h1 : (0 : Int) ≤ p.toInt := by simpa using Int32.le_iff_toInt_le.mp h0
  show p.toInt = ((p.toInt.toNat : Nat) : Int)
  omega
theorem lt_iff (a b : Int32) : a < b ↔ a.toInt < b.toInt := Int32.lt_iff_toInt_lt
theorem le_iff (a b : Int32) : a ≤ b ↔ a.toInt ≤ b.toInt := Int32.le_iff_toInt_le
theorem nIm1_toInt {n : Nat} (hn : n ≤ 2464) : (nI n - 1).toInt = (n : Int) - 1 := by
  have := pk_sub_toInt (a := n) (b := 1) (by omega) (by omega)
  rw [show nI 1 = (1 : Int32) from rfl] at this
  rw [this]; rfl
/-- the reference's question whether p is one of n -/
theorem m_in {n : Nat} (hn : n ≤ 2464) (p : Int32) : den_X7_within p (0 : Int32) (nI n - (1 : Int32)) = some (if isB n p = true then 1 else 0) := by
  rw [m_within]
  congr 1
  by_cases h0 : p < 0
  · rw [if_pos h0, if_neg]
    intro h
    unfold isB at h
    rw [Bool.and_eq_true] at h
    exact of_decide_eq_true h.1 h0
  · rw [if_neg h0]
    have e := clamp_nonneg h0
    by_cases h1 : nI n - 1 < p
    · rw [if_pos h1, if_neg]
      intro h
      unfold isB at h
      rw [Bool.and_eq_true] at h
      have h2 := of_decide_eq_true h.2
      rw [lt_iff, nIm1_toInt hn, e] at h1
      omega
    · rw [if_neg h1, if_pos]
      unfold isB
      rw [Bool.and_eq_true]
      refine ⟨decide_eq_true h0, decide_eq_true ?_⟩
      rw [lt_iff, nIm1_toInt hn, e] at h1
      omega
theorem isZ_ite {c : Bool} : isZ (if c = true then 1 else 0) = true := by cases c <;> rfl
theorem m_isB {st : Nat → Int32} (h : WF st) (p : Int32) : den_X7_isBlock st p = some (if isB (nB st) p = true then 1 else 0) := by
  have h1 := h.n16
  unfold den_X7_isBlock
  rw [h.n, m_in (by omega), bnd_s, gd_t isZ_ite]
theorem m_isC {st : Nat → Int32} (h : WF st) (p : Int32) : den_X7_isCell st p = some (if isB (FF st (nB st)) p = true then 1 else 0) := by
  have h1 := FF_2464 h (Nat.le_refl _)
  unfold den_X7_isCell
  rw [m_all h, bnd_s, m_in (by omega), bnd_s, gd_t isZ_ite]
