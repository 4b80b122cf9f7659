/-! widest: blocks under a block -/
def pr (st : Nat → Int32) (c : Nat) : Option Nat := if st (4 + 10 * c + 1) = -6 then none else some (st (4 + 10 * c + 1)).toNatClampNeg
def VV (st : Nat → Int32) (k : Nat) : Nat → Nat → Nat → Bool
  | 0, _, _ => false
  | f + 1, c, b => match pr st c with
    | none => false
    | some u => decide (u = b) || (decide (k ≤ u) && VV st k f u b)
theorem pr_cases {st : Nat → Int32} (w : WF st) {c : Nat} (hc : c < nB st) : (pr st c = none ∧ st (4 + 10 * c + 1) = -6) ∨ ∃ u, u < c ∧ pr st c = some u ∧ st (4 + 10 * c + 1) = nI u := by
  have h16 := w.n16
  unfold pr
  rcases w.u hc with h | ⟨u, hu, h⟩
  · exact Or.inl ⟨by rw [if_pos h], h⟩
  · refine Or.inr ⟨u, hu, ?_, h⟩
    rw [if_neg (by rw [h]; exact nI_ne6 (by omega)), h, nI_clamp (by omega)]
theorem VV_n {st : Nat → Int32} {k f c b : Nat} (h : pr st c = none) : VV st k (f + 1) c b = false := by
  show (match pr st c with | none => false | some u => decide (u = b) || (decide (k ≤ u) && VV st k f u b)) = false
  rw [h]
theorem VV_s {st : Nat → Int32} {k f c b u : Nat} (h : pr st c = some u) : VV st k (f + 1) c b = (decide (u = b) || (decide (k ≤ u) && VV st k f u b)) := by
  show (match pr st c with | none => false | some u => decide (u = b) || (decide (k ≤ u) && VV st k f u b)) = _
  rw [h]
/-- the chain through k: it ends there, or passes on to k's own parent -/
theorem VV_step {st : Nat → Int32} (w : WF st) {k b : Nat} : ∀ (f c : Nat), c < f → k < c → c < nB st → VV st k f c b = (VV st (k + 1) f c b || (VV st (k + 1) f c k && decide (pr st k = some b))) := by
  intro f
  induction f with
  | zero => intro c hf; omega
  | succ f ih =>
    intro c hf hk hc
    rcases pr_cases w hc with ⟨h, -⟩ | ⟨u, hu, h, -⟩
    · rw [VV_n h, VV_n h, VV_n h]; rfl
    · rw [VV_s h, VV_s h, VV_s h]
      by_cases e : u = k
      · subst e
        have hrec : VV st u f u b = decide (pr st u = some b) := by
          cases f with
          | zero => omega
          | succ f =>
            rcases pr_cases w (c := u) (by omega) with ⟨h2, -⟩ | ⟨u2, hu2, h2, -⟩
            · rw [VV_n h2, h2]; rfl
            · rw [VV_s h2, h2, decide_eq_false (show ¬ u ≤ u2 by omega), Bool.false_and, Bool.or_false]
              apply decide_eq_decide.mpr
              constructor
              · intro q; rw [q]
              · intro q; exact Option.some.inj q
        rw [hrec, decide_eq_true (Nat.le_refl u), decide_eq_false (show ¬ u + 1 ≤ u by omega), decide_eq_true (rfl : u = u)]
        simp
      · by_cases e2 : k < u
        · rw [ih u (by omega) e2 (by omega), decide_eq_true (show k ≤ u by omega), decide_eq_true (show k + 1 ≤ u by omega), decide_eq_false e]
          simp only [Bool.true_and, Bool.false_or, Bool.or_assoc]
        · rw [decide_eq_false (show ¬ k ≤ u by omega), decide_eq_false (show ¬ k + 1 ≤ u by omega), decide_eq_false e]
          simp
theorem VV_ex {st : Nat → Int32} (w : WF st) {k u : Nat} (hu : u < k) : ∀ (f c : Nat), c < nB st → VV st (k + 1) f c k = true → VV st (k + 1) f c u = false := by
  intro f
  induction f with
  | zero => intro c _ h; exact absurd h Bool.false_ne_true
  | succ f ih =>
    intro c hc h
    rcases pr_cases w hc with ⟨h1, -⟩ | ⟨x, hx, h1, -⟩
    · exact VV_n h1
    · rw [VV_s h1] at h ⊢
      by_cases e : x = k
      · rw [decide_eq_false (show ¬ x = u by omega), decide_eq_false (show ¬ k + 1 ≤ x by omega)]; rfl
      · rw [decide_eq_false e, Bool.false_or, Bool.and_eq_true, decide_eq_true_eq] at h
        rw [decide_eq_false (show ¬ x = u by omega), ih x (by omega) h.2, Bool.and_false]; rfl
/-- what is reached is reached through its parents -/
def rB (st : Nat → Int32) (c : Nat) : Bool := decide (rS st (nB st) / 2 ^ c % 2 = 1)
theorem rS_bit {st : Nat → Int32} : ∀ {n c : Nat}, c < n → rS st n / 2 ^ c % 2 = rS st (c + 1) / 2 ^ c % 2
  | 0, c, h => by omega
  | n + 1, c, h => by
    by_cases e : c = n
    · rw [e]
    · have ih := rS_bit (st := st) (n := n) (c := c) (by omega)
      have : rS st (n + 1) = rS st n + (if ld (lB st) st n ≠ -6 ∧ (st (4 + 10 * n + 1) = -6 ∨ rS st n / 2 ^ (st (4 + 10 * n + 1)).toNatClampNeg % 2 = 1) then 2 ^ n else 0) := rfl
      rw [this, add_bit (rS_lt st n) (by omega), ih]
theorem rB_up {st : Nat → Int32} (w : WF st) {c u : Nat} (hc : c < nB st) (hp : pr st c = some u) (hr : rB st c = true) : rB st u = true := by
  rcases pr_cases w hc with ⟨h, -⟩ | ⟨x, hx, h, hs⟩
  · rw [h] at hp; cases hp
  · have e : x = u := by rw [h] at hp; exact Option.some.inj hp
    subst e
    have h16 := w.n16
    unfold rB at *
    rw [decide_eq_true_eq] at *
    rw [rS_bit hc] at hr
    have : rS st (c + 1) = rS st c + (if ld (lB st) st c ≠ -6 ∧ (st (4 + 10 * c + 1) = -6 ∨ rS st c / 2 ^ (st (4 + 10 * c + 1)).toNatClampNeg % 2 = 1) then 2 ^ c else 0) := rfl
    rw [this, top_bit (rS_lt st c), hs, nI_clamp (by omega)] at hr
    rcases hr.2 with q | q
    · exact absurd q (nI_ne6 (by omega))
    · rw [rS_bit (show x < nB st by omega), ← rS_bit hx]; exact q
theorem rB_VV {st : Nat → Int32} (w : WF st) {k : Nat} : ∀ (f c b : Nat), c < nB st → VV st k f c b = true → rB st c = true → rB st b = true := by
  intro f
  induction f with
  | zero => intro c b _ h; exact absurd h Bool.false_ne_true
  | succ f ih =>
    intro c b hc h hr
    rcases pr_cases w hc with ⟨h1, -⟩ | ⟨x, hx, h1, -⟩
    · rw [VV_n h1] at h; exact absurd h (by decide)
    · have hx2 := rB_up w hc h1 hr
      rw [VV_s h1, Bool.or_eq_true, Bool.and_eq_true, decide_eq_true_eq] at h
      rcases h with h | h
      · rw [← h]; exact hx2
      · exact ih x b (by omega) h.2 hx2
def qB (st : Nat → Int32) (k b c : Nat) : Bool := decide (k ≤ c) && (rB st c && VV st k 17 c b)
theorem cntN_congr {P Q : Nat → Bool} : ∀ {n}, (∀ k, k < n → P k = Q k) → cntN P n = cntN Q n
  | 0, _ => rfl
  | n + 1, h => by
    show cntN P n + (if P n = true then 1 else 0) = cntN Q n + (if Q n = true then 1 else 0)
    rw [cntN_congr (n := n) (fun k hk => h k (by omega)), h n (by omega)]
theorem cntN_0 {P : Nat → Bool} : ∀ {n}, (∀ k, k < n → P k = false) → cntN P n = 0
  | 0, _ => rfl
  | n + 1, h => by
    show cntN P n + (if P n = true then 1 else 0) = 0
    rw [cntN_0 (n := n) (fun k hk => h k (by omega)), h n (by omega)]; rfl
theorem cntN_or {P Q : Nat → Bool} : ∀ {n}, (∀ k, k < n → P k = true → Q k = false) → cntN (fun k => P k || Q k) n = cntN P n + cntN Q n
  | 0, _ => rfl
  | n + 1, h => by
    show cntN (fun k => P k || Q k) n + (if (P n || Q n) = true then 1 else 0) = cntN P n + (if P n = true then 1 else 0) + (cntN Q n + (if Q n = true then 1 else 0))
    rw [cntN_or (n := n) (fun k hk => h k (by omega))]
    have h2 := h n (by omega)
    cases hp : P n with
    | true => rw [h2 hp]; simp; omega
    | false => simp; omega
theorem cntN_one {n k : Nat} (hk : k < n) : cntN (fun c => decide (c = k)) n = 1 := by
  induction n with
  | zero => omega
  | succ n ih =>
    show cntN (fun c => decide (c = k)) n + (if decide (n = k) = true then 1 else 0) = 1
    by_cases e : n = k
    · rw [if_pos (decide_eq_true e), cntN_0 (fun j hj => decide_eq_false (by omega))]
    · rw [if_neg (fun q => e (of_decide_eq_true q)), ih (by omega)]
theorem q_step {st : Nat → Int32} (w : WF st) {k b : Nat} (hk : k < nB st) : cntN (qB st k b) (nB st) = cntN (qB st (k + 1) b) (nB st) + (if rB st k = true ∧ pr st k = some b then cntN (qB st (k + 1) k) (nB st) + 1 else 0) := by
  have h16 := w.n16
  have hpt : ∀ c, c < nB st → qB st k b c = ((qB st (k + 1) b c || (qB st (k + 1) k c && decide (pr st k = some b))) || (decide (c = k) && (rB st k && decide (pr st k = some b)))) := by
    intro c hc
    unfold qB
    by_cases e : c = k
    · subst e
      have hV : VV st c 17 c b = decide (pr st c = some b) := by
        rcases pr_cases w hc with ⟨h, -⟩ | ⟨u, hu, h, -⟩
        · rw [VV_n h, h]; rfl
        · rw [VV_s h, h, decide_eq_false (show ¬ c ≤ u by omega), Bool.false_and, Bool.or_false]
          apply decide_eq_decide.mpr
          constructor
          · intro q; rw [q]
          · intro q; exact Option.some.inj q
      rw [hV, decide_eq_true (Nat.le_refl c), decide_eq_false (show ¬ c + 1 ≤ c by omega), decide_eq_true (rfl : c = c)]
      simp
    · rw [decide_eq_false e, Bool.false_and, Bool.or_false]
      by_cases e2 : k < c
      · rw [VV_step w 17 c (by omega) e2 hc, decide_eq_true (show k ≤ c by omega), decide_eq_true (show k + 1 ≤ c by omega)]
        cases rB st c <;> simp
      · rw [decide_eq_false (show ¬ k ≤ c by omega), decide_eq_false (show ¬ k + 1 ≤ c by omega)]
        simp
  rw [cntN_congr hpt]
  by_cases hp : pr st k = some b
  · have hbk : b < k := by
      rcases pr_cases w hk with ⟨h, -⟩ | ⟨u, hu, h, -⟩
      · rw [h] at hp; cases hp
      · have : u = b := by rw [h] at hp; exact Option.some.inj hp
        omega
    rw [decide_eq_true hp]
    simp only [Bool.and_true]
    rw [cntN_or (P := fun c => qB st (k + 1) b c || qB st (k + 1) k c) (Q := fun c => decide (c = k) && rB st k) (fun c _ h => by
      by_cases e : c = k
      · subst e
        have h : (qB st (c + 1) b c || qB st (c + 1) c c) = true := h
        unfold qB at h
        rw [decide_eq_false (show ¬ c + 1 ≤ c by omega)] at h
        simp at h
      · rw [decide_eq_false e]; rfl), cntN_or (P := qB st (k + 1) b) (Q := qB st (k + 1) k) (fun c hc h => by
      unfold qB at *
      rw [Bool.and_eq_true, Bool.and_eq_true] at h
      cases hv : VV st (k + 1) 17 c k with
      | false => simp
      | true =>
        have := VV_ex w hbk 17 c hc hv
        rw [this] at h; exact absurd h.2.2 (by decide))]
    by_cases hr : rB st k = true
    · rw [if_pos ⟨hr, hp⟩, hr]
      simp only [Bool.and_true]
      rw [cntN_one hk]; omega
    · have hr2 : rB st k = false := by simpa using hr
      rw [if_neg (fun q => hr q.1), hr2, cntN_0 (P := qB st (k + 1) k) (fun c hc => by
        unfold qB
        cases hrc : rB st c with
        | false => simp
        | true =>
          cases hv : VV st (k + 1) 17 c k with
          | false => simp
          | true => exact absurd (rB_VV w 17 c k hc hv hrc) hr), cntN_0 (P := fun c => decide (c = k) && false) (fun c _ => by simp)]
  · rw [if_neg (fun q => hp q.2), decide_eq_false hp]
    simp only [Bool.and_false, Bool.or_false]
    rfl
