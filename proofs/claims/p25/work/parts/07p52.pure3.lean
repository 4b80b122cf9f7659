/-! how a telling is, how a block is loaded -/
def lc (l : Nat) (st : Nat → Int32) (c : Nat) : Nat → Nat
  | 0 => 0
  | n + 1 => lc l st c n + (if l ≤ cB st (c + n) % 128 then 1 else 0)
def lost (l : Nat) (st : Nat → Int32) (b t : Nat) : Bool := decide (lc l st (bs st b t) 4 < 2)
def allW (l : Nat) (st : Nat → Int32) (b t : Nat) : Nat → Bool
  | 0 => true
  | k + 1 => allW l st b t k && whole l st b t k
def sV (l : Nat) (st : Nat → Int32) (b t : Nat) : Nat → Int32
  | 0 => 0
  | k + 1 => sV l st b t k + rV l st b t k
def sW (st : Nat → Int32) (b t : Nat) : Nat → Nat
  | 0 => 0
  | k + 1 => sW st b t k + vN st b t k 8
def hw (l : Nat) (st : Nat → Int32) (b t : Nat) : Nat := if lost l st b t = true then 1 else if allW l st b t (mB st b) = true then (if rV l st b t (mB st b) = nI (sW st b t (mB st b) % 256) then 0 else 3) else 2
def bV (l : Nat) (st : Nat → Int32) (b k : Nat) : Int32 := if whole l st b 0 k = true then rV l st b 0 k else rV l st b 1 k
def allB (l : Nat) (st : Nat → Int32) (b : Nat) : Nat → Bool
  | 0 => true
  | k + 1 => allB l st b k && (whole l st b 0 k || whole l st b 1 k)
def vB (l : Nat) (st : Nat → Int32) (b k : Nat) : Nat := if whole l st b 0 k = true then vN st b 0 k 8 else vN st b 1 k 8
def sB (l : Nat) (st : Nat → Int32) (b : Nat) : Nat → Nat
  | 0 => 0
  | k + 1 => sB l st b k + vB l st b k
def sBV (l : Nat) (st : Nat → Int32) (b : Nat) : Nat → Int32
  | 0 => 0
  | k + 1 => sBV l st b k + bV l st b k
def okB (l : Nat) (st : Nat → Int32) (b : Nat) : Bool := (!lost l st b 0 && !lost l st b 1) && (allB l st b (mB st b) && (decide (rV l st b 0 (mB st b) = nI (sB l st b (mB st b) % 256)) || decide (rV l st b 1 (mB st b) = nI (sB l st b (mB st b) % 256))))
/-- how a block is loaded: 0, 1, 2 or -6 -/
def ld (l : Nat) (st : Nat → Int32) (b : Nat) : Int32 := if hw l st b 0 = 0 then 0 else if hw l st b 1 = 0 then 1 else if okB l st b = true then 2 else -6
def fdT (l : Nat) (st : Nat → Int32) (b t : Nat) (f : Nat → Int32) (n : Nat) : Nat → Int32 := fun j => if j < n then rV l st b t j else f j
def fdB (l : Nat) (st : Nat → Int32) (b : Nat) (f : Nat → Int32) (n : Nat) : Nat → Int32 := fun j => if j < n then bV l st b j else f j
def fdL (l : Nat) (st : Nat → Int32) (b : Nat) (f : Nat → Int32) : Nat → Int32 := if hw l st b 0 = 0 then fdT l st b 0 f (mB st b) else if hw l st b 1 = 0 then fdT l st b 1 f (mB st b) else fdB l st b f (mB st b)
theorem nI_ne6 {n : Nat} (h : n < 2 ^ 31) : ¬ nI n = -6 := fun e => by
  have h1 := nI_pos h
  rw [e] at h1
  exact h1 (by decide)
theorem rV_6 {st : Nat → Int32} (h : WF st) {l b : Nat} (hb : b < nB st) {t k : Nat} (ht : t < 2) (hk : k ≤ mB st b) : rV l st b t k = -6 ↔ ¬ whole l st b t k = true := by
  have hv := vN_lt h hb ht hk 8 (Nat.le_refl _)
  unfold rV
  by_cases c : whole l st b t k = true
  · rw [if_pos c]
    exact ⟨fun e => absurd e (nI_ne6 (by omega)), fun e => absurd c e⟩
  · rw [if_neg c]
    exact ⟨fun _ => c, fun _ => rfl⟩
theorem lc_le (l : Nat) (st : Nat → Int32) (c : Nat) : ∀ n, lc l st c n ≤ n
  | 0 => Nat.le_refl 0
  | n + 1 => by
    have := lc_le l st c n
    show lc l st c n + (if l ≤ cB st (c + n) % 128 then 1 else 0) ≤ n + 1
    split <;> omega
theorem m_lost_L {st : Nat → Int32} (h : WF st) {b : Nat} (hb : b < nB st) {t : Nat} (ht : t < 2) : ∀ (d fu n : Nat), n + d = 4 → d < fu →
    den_X7_isLeaderLost_L20 (nI t) st (nI (FF st b)) (nI (tl st b)) fu (nI (lc (lB st) st (bs st b t) n)) (nI n) = some (nI (lc (lB st) st (bs st b t) 4)) := by
  intro d
  induction d with
  | zero =>
    intro fu n hn hf
    cases fu with
    | zero => omega
    | succ fu =>
      have : n = 4 := by omega
      subst this
      rw [den_X7_isLeaderLost_L20, li4, if_pos (nI_le (Nat.le_refl _) (by omega))]
  | succ d ih =>
    intro fu n hn hf
    cases fu with
    | zero => omega
    | succ fu =>
      have hc := cell_in hb ht (p := n) (by unfold tl; omega)
      rw [den_X7_isLeaderLost_L20, li4, if_neg (nI_ge (by omega) (by omega)), pk_mul, nI_add, nI_add, show FF st b + t * tl st b + n = bs st b t + n from rfl, m_heard h hc, bnd_s]
      have e1 : (if (if lB st ≤ cB st (bs st b t + n) % 128 then (1 : Int32) else 0) = 0 then some (0 : Int32) else some 1) = some (nI (if lB st ≤ cB st (bs st b t + n) % 128 then 1 else 0)) := by
        by_cases c : lB st ≤ cB st (bs st b t + n) % 128
        · rw [if_pos c, if_pos c, if_neg (by decide)]; rfl
        · rw [if_neg c, if_neg c, if_pos rfl]; rfl
      rw [e1, bnd_s, nI_add, li1, nI_add]
      exact ih fu (n + 1) (by omega) (by omega)
theorem m_lost {st : Nat → Int32} (h : WF st) {b : Nat} (hb : b < nB st) {t : Nat} (ht : t < 2) : den_X7_isLeaderLost st (nI b) (nI t) = some (if lost (lB st) st b t = true then 1 else 0) := by
  unfold den_X7_isLeaderLost
  rw [m_first h (by omega), bnd_s, m_tl h hb, bnd_s]
  have h1 := m_lost_L h hb ht 4 FU 0 (by omega) (by rw [FU_eq]; omega)
  rw [show nI (lc (lB st) st (bs st b t) 0) = (0 : Int32) from rfl, show nI 0 = (0 : Int32) from rfl] at h1
  rw [h1, bnd_s, li2]
  have h2 := lc_le (lB st) st (bs st b t) 4
  unfold lost
  by_cases c : lc (lB st) st (bs st b t) 4 < 2
  · rw [if_neg (nI_ge c (by omega)), if_pos (decide_eq_true c)]
  · rw [if_pos (nI_le (by omega) (by omega)), if_neg (by rw [decide_eq_false c]; decide)]
theorem m_how_L {st : Nat → Int32} (h : WF st) {b : Nat} (hb : b < nB st) {t : Nat} (ht : t < 2) : ∀ (d fu k : Nat), k + d = mB st b → d < fu →
    den_X7_howIs_L19 (nI b) (nI t) st fu (sV (lB st) st b t k) (if allW (lB st) st b t k = true then 1 else 0) (nI k) = some (sV (lB st) st b t (mB st b), if allW (lB st) st b t (mB st b) = true then 1 else 0) := by
  have h1 := h.n16
  have h7 := h.m7 hb
  intro d
  induction d with
  | zero =>
    intro fu k hk hf
    cases fu with
    | zero => omega
    | succ fu =>
      have : k = mB st b := by omega
      subst this
      rw [den_X7_howIs_L19, m_part2 st (by omega), bnd_s, h.m hb, if_pos (nI_le (Nat.le_refl _) (by omega))]
  | succ d ih =>
    intro fu k hk hf
    cases fu with
    | zero => omega
    | succ fu =>
      rw [den_X7_howIs_L19, m_part2 st (by omega), bnd_s, h.m hb, if_neg (nI_ge (by omega) (by omega)), m_read h hb ht (by omega), bnd_s]
      have e1 : (if (if allW (lB st) st b t k = true then (1 : Int32) else 0) = 0 then some (0 : Int32) else if rV (lB st) st b t k = (-6 : Int32) then some 0 else some 1) = some (if allW (lB st) st b t (k + 1) = true then 1 else 0) := by
        have e2 : allW (lB st) st b t (k + 1) = (allW (lB st) st b t k && whole (lB st) st b t k) := rfl
        have e3 := rV_6 h (l := lB st) hb ht (k := k) (by omega)
        rw [e2]
        by_cases c1 : allW (lB st) st b t k = true
        · by_cases c2 : whole (lB st) st b t k = true
          · rw [if_neg (fun q => (e3.mp q) c2)]; simp [c1, c2]
          · rw [if_pos (e3.mpr c2)]; simp [c1, c2]
        · simp [c1]
      rw [e1, bnd_s, li1, nI_add]
      exact ih fu (k + 1) (by omega) (by omega)
theorem sV_W {st : Nat → Int32} {l b t : Nat} : ∀ k, allW l st b t k = true → sV l st b t k = nI (sW st b t k)
  | 0, _ => rfl
  | k + 1, hk => by
    have e : (allW l st b t k && whole l st b t k) = true := hk
    rw [Bool.and_eq_true] at e
    show sV l st b t k + rV l st b t k = nI (sW st b t k + vN st b t k 8)
    rw [sV_W k e.1, ← nI_add]
    unfold rV
    rw [if_pos e.2]
theorem sW_lt {st : Nat → Int32} (h : WF st) {b : Nat} (hb : b < nB st) {t : Nat} (ht : t < 2) : ∀ k, k ≤ mB st b → sW st b t k ≤ 255 * k
  | 0, _ => Nat.le_refl 0
  | k + 1, hk => by
    have h1 := sW_lt h hb ht k (by omega)
    have h2 := vN_lt h hb ht (k := k) (by omega) 8 (Nat.le_refl _)
    show sW st b t k + vN st b t k 8 ≤ 255 * (k + 1)
    omega
theorem m_how {st : Nat → Int32} (h : WF st) {b : Nat} (hb : b < nB st) {t : Nat} (ht : t < 2) : den_X7_howIs st (nI b) (nI t) = some (nI (hw (lB st) st b t)) := by
  have h1 := h.n16
  have h7 := h.m7 hb
  unfold den_X7_howIs hw
  rw [m_lost h hb ht, bnd_s]
  by_cases c : lost (lB st) st b t = true
  · rw [if_pos c, if_pos c, if_neg (by decide)]; rfl
  · rw [if_neg c, if_neg c, if_pos rfl]
    have h2 := m_how_L h hb ht (mB st b) FU 0 (by omega) (by rw [FU_eq]; omega)
    rw [show sV (lB st) st b t 0 = (0 : Int32) from rfl, show nI 0 = (0 : Int32) from rfl, show (if allW (lB st) st b t 0 = true then (1 : Int32) else 0) = 1 from rfl] at h2
    rw [h2, bnd_s]
    by_cases c2 : allW (lB st) st b t (mB st b) = true
    · rw [if_pos c2, if_pos c2, if_neg (show ¬ ((sV (lB st) st b t (mB st b), (1 : Int32)).2 = 0) from (show ¬ (1 : Int32) = 0 by decide)), m_part2 st (by omega), bnd_s, h.m hb, m_read h hb ht (Nat.le_refl _), bnd_s]
      have h3 := sW_lt h hb ht (mB st b) (Nat.le_refl _)
      show (if rV (lB st) st b t (mB st b) = sV (lB st) st b t (mB st b) - sV (lB st) st b t (mB st b) / (256 : Int32) * (256 : Int32) then some (0 : Int32) else some 3) = _
      rw [sV_W _ c2, li256, pk_rem (by omega) (by omega) (by omega)]
      by_cases c3 : rV (lB st) st b t (mB st b) = nI (sW st b t (mB st b) % 256)
      · rw [if_pos c3, if_pos c3]; rfl
      · rw [if_neg c3, if_neg c3]; rfl
    · rw [if_neg c2, if_neg c2, if_pos (show ((sV (lB st) st b t (mB st b), (0 : Int32)).2 = 0) from rfl)]; rfl
theorem hw_4 (l : Nat) (st : Nat → Int32) (b t : Nat) : hw l st b t < 4 := by
  unfold hw
  split
  · omega
  · split
    · split <;> omega
    · omega
theorem hw_0 {l : Nat} {st : Nat → Int32} {b t : Nat} : nI (hw l st b t) = nI 0 ↔ hw l st b t = 0 := by
  have := hw_4 l st b t
  rw [nI_eq (by omega) (by omega)]
theorem m_findBy_L {st : Nat → Int32} (h : WF st) {b : Nat} (hb : b < nB st) {t : Nat} (ht : t < 2) (f : Nat → Int32) : ∀ (d fu k : Nat), k + d = mB st b → d < fu →
    den_X7_findBy_L2 (nI b) (nI t) st fu (nI k) (fdT (lB st) st b t f k) = some (fdT (lB st) st b t f (mB st b)) := by
  have h1 := h.n16
  have h7 := h.m7 hb
  intro d
  induction d with
  | zero =>
    intro fu k hk hf
    cases fu with
    | zero => omega
    | succ fu =>
      have : k = mB st b := by omega
      subst this
      rw [den_X7_findBy_L2, m_part2 st (by omega), bnd_s, h.m hb, if_pos (nI_le (Nat.le_refl _) (by omega))]
  | succ d ih =>
    intro fu k hk hf
    cases fu with
    | zero => omega
    | succ fu =>
      rw [den_X7_findBy_L2, m_part2 st (by omega), bnd_s, h.m hb, if_neg (nI_ge (by omega) (by omega)), m_read h hb ht (by omega), bnd_s, gdI (by omega) (by omega), nI_clamp (by omega), li1, nI_add]
      have e : upd (fdT (lB st) st b t f k) k (rV (lB st) st b t k) = fdT (lB st) st b t f (k + 1) := by
        funext j
        unfold upd fdT
        by_cases c : j = k
        · subst c; rw [if_pos rfl, if_pos (by omega)]
        · rw [if_neg c]
          by_cases c2 : j < k
          · rw [if_pos c2, if_pos (by omega)]
          · rw [if_neg c2, if_neg (by omega)]
      rw [e]
      exact ih fu (k + 1) (by omega) (by omega)
theorem fdT_0 (l : Nat) (st : Nat → Int32) (b t : Nat) (f : Nat → Int32) : fdT l st b t f 0 = f := by
  funext j; unfold fdT; rw [if_neg (by omega)]
theorem fdB_0 (l : Nat) (st : Nat → Int32) (b : Nat) (f : Nat → Int32) : fdB l st b f 0 = f := by
  funext j; unfold fdB; rw [if_neg (by omega)]
theorem m_findBy {st : Nat → Int32} (h : WF st) {b : Nat} (hb : b < nB st) {t : Nat} (ht : t < 2) (f : Nat → Int32) : den_X7_findBy st f (nI b) (nI t) = some (fdT (lB st) st b t f (mB st b)) := by
  have h7 := h.m7 hb
  unfold den_X7_findBy
  have h1 := m_findBy_L h hb ht f (mB st b) FU 0 (by omega) (by rw [FU_eq]; omega)
  rw [fdT_0, show nI 0 = (0 : Int32) from rfl] at h1
  rw [h1, bnd_s]
theorem bV_6 {st : Nat → Int32} (h : WF st) {l b : Nat} (hb : b < nB st) {k : Nat} (hk : k ≤ mB st b) : bV l st b k = -6 ↔ ¬ (whole l st b 0 k || whole l st b 1 k) = true := by
  have h0 := rV_6 h (l := l) hb (t := 0) (k := k) (by omega) hk
  have h1 := rV_6 h (l := l) hb (t := 1) (k := k) (by omega) hk
  unfold bV
  by_cases c : whole l st b 0 k = true
  · rw [if_pos c]
    constructor
    · intro e; exact absurd c (h0.mp e)
    · intro e; exact absurd (by rw [c]; rfl) e
  · rw [if_neg c, h1]
    simp [c]
theorem m_both_L {st : Nat → Int32} (h : WF st) {b : Nat} (hb : b < nB st) (f : Nat → Int32) (g : Bool) : ∀ (d fu k : Nat), k + d = mB st b → d < fu →
    den_X7_findByBoth_L29 (nI b) st fu (sBV (lB st) st b k) (if (g && allB (lB st) st b k) = true then 1 else 0) (nI k) (fdB (lB st) st b f k) = some (sBV (lB st) st b (mB st b), (if (g && allB (lB st) st b (mB st b)) = true then 1 else 0), fdB (lB st) st b f (mB st b)) := by
  have h1 := h.n16
  have h7 := h.m7 hb
  intro d
  induction d with
  | zero =>
    intro fu k hk hf
    cases fu with
    | zero => omega
    | succ fu =>
      have : k = mB st b := by omega
      subst this
      rw [den_X7_findByBoth_L29, m_part2 st (by omega), bnd_s, h.m hb, if_pos (nI_le (Nat.le_refl _) (by omega))]
  | succ d ih =>
    intro fu k hk hf
    cases fu with
    | zero => omega
    | succ fu =>
      rw [den_X7_findByBoth_L29, m_part2 st (by omega), bnd_s, h.m hb, if_neg (nI_ge (by omega) (by omega)), show (0 : Int32) = nI 0 from rfl, show (1 : Int32) = nI 1 from rfl, m_read h hb (t := 0) (by omega) (by omega), bnd_s, m_read h hb (t := 1) (by omega) (by omega)]
      have e0 : (if rV (lB st) st b 0 k = (-6 : Int32) then bnd (some (rV (lB st) st b 1 k)) (fun q22 => some q22) else some (rV (lB st) st b 0 k)) = some (bV (lB st) st b k) := by
        have h0 := rV_6 h (l := lB st) hb (t := 0) (k := k) (by omega) (by omega)
        unfold bV
        by_cases c : whole (lB st) st b 0 k = true
        · rw [if_pos c, if_neg (fun q => h0.mp q c)]
        · rw [if_neg c, if_pos (h0.mpr c), bnd_s]
      rw [e0, bnd_s]
      simp only [gdI (show k < 7 by omega) (show k < 2 ^ 31 by omega), nI_clamp (show k < 2 ^ 31 by omega), pk_us]
      have e1 : (if (if (g && allB (lB st) st b k) = true then nI 1 else nI 0) = nI 0 then some (nI 0) else if bV (lB st) st b k = (-6 : Int32) then some (nI 0) else some (nI 1)) = some (if (g && allB (lB st) st b (k + 1)) = true then nI 1 else nI 0) := by
        have e2 : allB (lB st) st b (k + 1) = (allB (lB st) st b k && (whole (lB st) st b 0 k || whole (lB st) st b 1 k)) := rfl
        have e3 := bV_6 h (l := lB st) hb (k := k) (by omega)
        rw [e2]
        by_cases c1 : (g && allB (lB st) st b k) = true
        · rw [if_pos c1, if_neg (by decide)]
          by_cases c2 : (whole (lB st) st b 0 k || whole (lB st) st b 1 k) = true
          · rw [if_neg (fun q => (e3.mp q) c2), if_pos (by rw [← Bool.and_assoc, c1, c2]; rfl)]
          · rw [if_pos (e3.mpr c2), if_neg (by rw [← Bool.and_assoc]; intro q; rw [Bool.and_eq_true] at q; exact c2 q.2)]
        · rw [if_neg c1, if_pos rfl, if_neg (by rw [← Bool.and_assoc]; intro q; rw [Bool.and_eq_true] at q; exact c1 q.1)]
      rw [e1, bnd_s, nm_d, nI_add]
      have e4 : upd (fdB (lB st) st b f k) k (bV (lB st) st b k) = fdB (lB st) st b f (k + 1) := by
        funext j
        unfold upd fdB
        by_cases c : j = k
        · subst c; rw [if_pos rfl, if_pos (by omega)]
        · rw [if_neg c]
          by_cases c2 : j < k
          · rw [if_pos c2, if_pos (by omega)]
          · rw [if_neg c2, if_neg (by omega)]
      rw [e4]
      exact ih fu (k + 1) (by omega) (by omega)
theorem vN_256 {st : Nat → Int32} (h : WF st) {b : Nat} (hb : b < nB st) {t k : Nat} (ht : t < 2) (hk : k ≤ mB st b) : vN st b t k 8 < 256 := vN_lt h hb ht hk 8 (Nat.le_refl _)
theorem vB_256 {st : Nat → Int32} (h : WF st) (l : Nat) {b : Nat} (hb : b < nB st) {k : Nat} (hk : k ≤ mB st b) : vB l st b k < 256 := by
  unfold vB
  split
  · exact vN_256 h hb (by omega) hk
  · exact vN_256 h hb (by omega) hk
theorem sB_lt {st : Nat → Int32} (h : WF st) (l : Nat) {b : Nat} (hb : b < nB st) : ∀ k, k ≤ mB st b → sB l st b k ≤ 255 * k
  | 0, _ => Nat.le_refl 0
  | k + 1, hk => by
    have h1 := sB_lt h l hb k (by omega)
    have h2 := vB_256 h l hb (k := k) (by omega)
    show sB l st b k + vB l st b k ≤ 255 * (k + 1)
    omega
theorem sBV_B {st : Nat → Int32} {l b : Nat} : ∀ k, allB l st b k = true → sBV l st b k = nI (sB l st b k)
  | 0, _ => rfl
  | k + 1, hk => by
    have e : (allB l st b k && (whole l st b 0 k || whole l st b 1 k)) = true := hk
    rw [Bool.and_eq_true] at e
    show sBV l st b k + bV l st b k = nI (sB l st b k + vB l st b k)
    rw [sBV_B k e.1, ← nI_add]
    unfold bV vB
    by_cases c : whole l st b 0 k = true
    · rw [if_pos c, if_pos c]; unfold rV; rw [if_pos c]
    · have c1 : whole l st b 1 k = true := by
        have := e.2
        rw [Bool.or_eq_true] at this
        exact this.resolve_left c
      rw [if_neg c, if_neg c]; unfold rV; rw [if_pos c1]
theorem m_both {st : Nat → Int32} (h : WF st) {b : Nat} (hb : b < nB st) (f : Nat → Int32) : den_X7_findByBoth st f (nI b) = some ((if okB (lB st) st b = true then 1 else 0), fdB (lB st) st b f (mB st b)) := by
  have h1 := h.n16
  have h7 := h.m7 hb
  unfold den_X7_findByBoth
  rw [show (0 : Int32) = nI 0 from rfl, show (1 : Int32) = nI 1 from rfl, m_lost h hb (t := 0) (by omega), bnd_s, m_lost h hb (t := 1) (by omega)]
  have e1 : (if (if lost (lB st) st b 0 = true then (1 : Int32) else 0) = nI 0 then bnd (some (if lost (lB st) st b 1 = true then (1 : Int32) else 0)) (fun q25 => if q25 = nI 0 then some (nI 1) else some (nI 0)) else some (nI 0)) = some (if ((!lost (lB st) st b 0 && !lost (lB st) st b 1) && allB (lB st) st b 0) = true then 1 else 0) := by
    cases lost (lB st) st b 0 <;> cases lost (lB st) st b 1 <;> rfl
  rw [e1, bnd_s]
  have h2 := m_both_L h hb f (!lost (lB st) st b 0 && !lost (lB st) st b 1) (mB st b) FU 0 (by omega) (by rw [FU_eq]; omega)
  rw [fdB_0, show sBV (lB st) st b 0 = nI 0 from rfl] at h2
  rw [h2, bnd_s, m_part2 st (by omega), bnd_s, h.m hb]
  unfold okB
  by_cases c : ((!lost (lB st) st b 0 && !lost (lB st) st b 1) && allB (lB st) st b (mB st b)) = true
  · have ca := c
    rw [Bool.and_eq_true] at ca
    rw [if_pos c, if_neg (show ¬ (sBV (lB st) st b (mB st b), (1 : Int32), fdB (lB st) st b f (mB st b)).2.1 = nI 0 from (show ¬ (1 : Int32) = 0 by decide)), m_read h hb (t := 0) (by omega) (Nat.le_refl _), bnd_s, m_read h hb (t := 1) (by omega) (Nat.le_refl _), bnd_s]
    have h3 := sB_lt h (lB st) hb (mB st b) (Nat.le_refl _)
    have e2 : sBV (lB st) st b (mB st b) - sBV (lB st) st b (mB st b) / (256 : Int32) * (256 : Int32) = nI (sB (lB st) st b (mB st b) % 256) := by
      rw [sBV_B _ ca.2, li256, pk_rem (by omega) (by omega) (by omega)]
    show (if rV (lB st) st b 0 (mB st b) = sBV (lB st) st b (mB st b) - sBV (lB st) st b (mB st b) / (256 : Int32) * (256 : Int32) then some ((1 : Int32), fdB (lB st) st b f (mB st b)) else if rV (lB st) st b 1 (mB st b) = sBV (lB st) st b (mB st b) - sBV (lB st) st b (mB st b) / (256 : Int32) * (256 : Int32) then some (1, fdB (lB st) st b f (mB st b)) else some (0, fdB (lB st) st b f (mB st b))) = _
    rw [e2, ca.1, ca.2]
    by_cases c1 : rV (lB st) st b 0 (mB st b) = nI (sB (lB st) st b (mB st b) % 256)
    · rw [if_pos c1, decide_eq_true c1]; rfl
    · rw [if_neg c1, decide_eq_false c1]
      by_cases c2 : rV (lB st) st b 1 (mB st b) = nI (sB (lB st) st b (mB st b) % 256)
      · rw [if_pos c2, decide_eq_true c2]; rfl
      · rw [if_neg c2, decide_eq_false c2]; rfl
  · rw [if_neg c, if_pos (show (sBV (lB st) st b (mB st b), (0 : Int32), fdB (lB st) st b f (mB st b)).2.1 = nI 0 from rfl), if_neg]
    · intro q
      simp only [Bool.and_eq_true] at q c
      exact c ⟨q.1, q.2.1⟩
theorem m_loaded {st : Nat → Int32} (h : WF st) {b : Nat} (hb : b < nB st) (f : Nat → Int32) : den_X7_loadedBy st f (nI b) = some (ld (lB st) st b, fdL (lB st) st b f) := by
  unfold den_X7_loadedBy
  obtain ⟨n, hn⟩ : ∃ n, FU = n + 3 := ⟨39997, by rw [FU_eq]⟩
  rw [hn, den_X7_loadedBy_L2, if_neg (by decide), show (0 : Int32) = nI 0 from rfl, m_how h hb (by omega), bnd_s]
  unfold ld fdL
  by_cases c : hw (lB st) st b 0 = 0
  · rw [if_pos c, if_pos c, if_pos (hw_0.mpr c), m_findBy h hb (by omega), bnd_s]; rfl
  · rw [if_neg c, if_neg c, if_neg (fun q => c (hw_0.mp q)), den_X7_loadedBy_L2, if_neg (by decide), show nI 0 + (1 : Int32) = nI 1 from rfl, m_how h hb (by omega), bnd_s, show (0 : Int32) = nI 0 from rfl]
    by_cases c2 : hw (lB st) st b 1 = 0
    · rw [if_pos c2, if_pos c2, if_pos (hw_0.mpr c2), m_findBy h hb (by omega), bnd_s]; rfl
    · rw [if_neg c2, if_neg c2, if_neg (fun q => c2 (hw_0.mp q)), den_X7_loadedBy_L2, if_pos (by decide), m_both h hb, bnd_s, show (0 : Int32) = nI 0 from rfl]
      by_cases c3 : okB (lB st) st b = true
      · rw [if_pos c3, if_pos c3, if_neg (show ¬ ((1 : Int32), fdB (lB st) st b f (mB st b)).1 = nI 0 from (show ¬ (1 : Int32) = 0 by decide))]
      · rw [if_neg c3, if_neg c3, if_pos (show (nI 0, fdB (lB st) st b f (mB st b)).1 = nI 0 from rfl)]
