/-! widest -/
theorem rB_iff {st : Nat → Int32} {c : Nat} : rB st c = true ↔ rS st (nB st) / 2 ^ c % 2 = 1 := by unfold rB; rw [decide_eq_true_eq]
theorem c_zero_L {bw : Nat → Int32} : ∀ (d fu n : Nat), n + d = 16 → d < fu → den_X6_countBelow_L2 fu (nI n) (fl bw 0 n (fun _ => 0)) = some (fl bw 0 16 (fun _ => 0)) := by
  intro d
  induction d with
  | zero =>
    intro fu n hn hf
    cases fu with
    | zero => omega
    | succ fu =>
      have : n = 16 := by omega
      subst this
      rw [den_X6_countBelow_L2, if_pos (show (16 : Int32) ≤ nI 16 by decide)]
  | succ d ih =>
    intro fu n hn hf
    cases fu with
    | zero => omega
    | succ fu =>
      have hs := fl_s bw 0 n (fun _ => 0)
      rw [Nat.zero_add] at hs
      rw [den_X6_countBelow_L2, if_neg (show ¬ (16 : Int32) ≤ nI n from nI_ge (b := 16) (by omega) (by omega)), gdI (by omega) (by omega), nI_clamp (by omega), hs, li1, nI_add]
      exact ih fu (n + 1) (by omega) (by omega)
def cnB (st : Nat → Int32) (k b : Nat) : Nat := cntN (qB st k b) (nB st)
theorem cnB_le (st : Nat → Int32) (k b : Nat) : cnB st k b ≤ nB st := cntN_le _ _
theorem c_below_L {se na un ma fi vo ba wr st : Nat → Int32} {bl : Int32} (r : RT se bl na un ma fi vo ba wr st) : ∀ (k fu : Nat) (bw : Nat → Int32), k ≤ nB st → k < fu → (∀ b, b < nB st → bw b = nI (cnB st k b)) →
    ∃ bw', den_X6_countBelow_L33 (nI (rS st (nB st))) un fu (nI k - 1) bw = some bw' ∧ ∀ b, b < nB st → bw' b = nI (cnB st 0 b) := by
  have w := r.1
  have h16 := w.n16
  have hS := p2_31 (rS_lt st (nB st)) h16
  intro k
  induction k with
  | zero =>
    intro fu bw hk hf hb
    cases fu with
    | zero => omega
    | succ fu =>
      rw [den_X6_countBelow_L33, if_pos (show nI 0 - 1 < 0 by decide)]
      exact ⟨bw, rfl, hb⟩
  | succ k ih =>
    intro fu bw hk hf hb
    cases fu with
    | zero => omega
    | succ fu =>
      have hstep : ∀ b, cnB st k b = cnB st (k + 1) b + (if rB st k = true ∧ pr st k = some b then cnB st (k + 1) k + 1 else 0) := fun b => q_step w (by omega)
      rw [den_X6_countBelow_L33, nI_pred, if_neg (nI_pos (by omega)), gdI (by omega) (by omega), c_holds hS (by omega), bnd_s, nI_clamp (by omega), r.un (by omega), show nI k + (-1 : Int32) = nI k - 1 from (Int32.sub_eq_add_neg _ _).symm]
      by_cases c : rS st (nB st) / 2 ^ k % 2 = 1
      · rw [if_pos c, if_neg (show ¬ (1 : Int32) = 0 by decide)]
        rcases pr_cases w (c := k) (by omega) with ⟨h, hs⟩ | ⟨u, hu, h, hs⟩
        · rw [hs, if_pos (show (-6 : Int32) = -6 from rfl)]
          exact ih fu bw (by omega) (by omega) (fun b hb2 => by rw [hstep b, if_neg (fun q => by rw [h] at q; cases q.2)]; exact hb b hb2)
        · rw [hs, if_neg (nI_ne6 (by omega)), gdI (by omega) (by omega), gdI (by omega) (by omega), gdI (by omega) (by omega), nI_clamp (by omega), hb k (by omega), hb u (by omega), li1, nI_add, nI_add, show cnB st (k + 1) u + cnB st (k + 1) k + 1 = cnB st (k + 1) u + (cnB st (k + 1) k + 1) from rfl]
          refine ih fu _ (by omega) (by omega) (fun b hb2 => ?_)
          rw [hstep b]
          by_cases e : b = u
          · subst e
            rw [pk_us, if_pos ⟨rB_iff.mpr c, h⟩]
          · rw [pk_un e, if_neg (fun q => e (by rw [h] at q; exact (Option.some.inj q.2).symm))]
            exact hb b hb2
      · rw [if_neg c, if_pos rfl]
        exact ih fu bw (by omega) (by omega) (fun b hb2 => by rw [hstep b, if_neg (fun q => c (rB_iff.mp q.1))]; exact hb b hb2)
theorem c_below {se na un ma fi vo ba wr st : Nat → Int32} {bl : Int32} (r : RT se bl na un ma fi vo ba wr st) (bw : Nat → Int32) : ∃ bw', den_X6_countBelow bl un bw (nI (rS st (nB st))) = some bw' ∧ ∀ b, b < nB st → bw' b = nI (cnB st 0 b) := by
  have h16 := r.1.n16
  have e := c_zero_L (bw := bw) 16 FU 0 (by omega) (by rw [FU_eq]; omega)
  rw [fl_0, show nI 0 = (0 : Int32) from rfl] at e
  obtain ⟨bw', e2, h⟩ := c_below_L r (nB st) FU (fl bw 0 16 (fun _ => 0)) (Nat.le_refl _) (by rw [FU_eq]; omega) (fun b hb => by
    have h0 : cnB st (nB st) b = 0 := cntN_0 (fun c hc => by unfold qB; rw [decide_eq_false (show ¬ nB st ≤ c by omega)]; rfl)
    rw [h0]
    have := fl_in (f := bw) (A := 0) (n := 16) (g := fun _ => (0 : Int32)) (show b < 16 by omega)
    rw [Nat.zero_add] at this
    exact this)
  refine ⟨bw', ?_, h⟩
  unfold den_X6_countBelow
  rw [e, bnd_s, r.blI, e2, bnd_s]
theorem m_under_L {st : Nat → Int32} (w : WF st) {b : Nat} (hb : b < nB st) : ∀ (f c fu : Nat), c < f → c + 1 < fu → c < nB st → den_X7_isUnder_L7 (nI b) st fu (st (4 + 10 * c + 1)) = some (if VV st 0 f c b = true then nI b else -6) := by
  have h16 := w.n16
  intro f
  induction f with
  | zero => intro c fu h; omega
  | succ f ih =>
    intro c fu hc hf hn
    cases fu with
    | zero => omega
    | succ fu =>
      rcases pr_cases w hn with ⟨h, hs⟩ | ⟨u, hu, h, hs⟩
      · rw [hs, den_X7_isUnder_L7, if_pos rfl, VV_n h, if_neg Bool.false_ne_true]
      · rw [hs, den_X7_isUnder_L7, if_neg (nI_ne6 (by omega)), VV_s h]
        by_cases e : u = b
        · subst e
          rw [if_pos rfl, decide_eq_true rfl, Bool.true_or, if_pos rfl]
        · rw [if_neg (show ¬ nI u = nI b from fun q => e ((nI_eq (by omega) (by omega)).mp q)), m_part1 st (by omega), bnd_s, decide_eq_false e, Bool.false_or, decide_eq_true (Nat.zero_le u), Bool.true_and]
          exact ih u fu (by omega) (by omega) (by omega)
theorem m_under {st : Nat → Int32} (w : WF st) {b c : Nat} (hb : b < nB st) (hc : c < nB st) : den_X7_isUnder st (nI c) (nI b) = some (if VV st 0 17 c b = true then 1 else 0) := by
  have h16 := w.n16
  unfold den_X7_isUnder
  rw [m_part1 st (by omega), bnd_s, m_under_L w hb 17 c FU (by omega) (by rw [FU_eq]; omega) hc, bnd_s]
  by_cases h : VV st 0 17 c b = true
  · rw [if_pos h, if_pos h, if_pos rfl]
  · rw [if_neg h, if_neg h, if_neg (fun q => nI_ne6 (show b < 2 ^ 31 by omega) q.symm)]
theorem m_cnt_L {st : Nat → Int32} (w : WF st) {q : Int32 × (Nat → Int32)} (hq : q.1 = nI (rS st (nB st))) {b : Nat} (hb : b < nB st) : ∀ (d fu k : Nat), k + d = nB st → d < fu →
    den_X7_widest_L44 st q (nI b) fu (nI (cntN (qB st 0 b) k)) (nI k) = some (nI (cnB st 0 b)) := by
  have h16 := w.n16
  have hS := p2_31 (rS_lt st (nB st)) h16
  intro d
  induction d with
  | zero =>
    intro fu k hk hf
    cases fu with
    | zero => omega
    | succ fu =>
      have : k = nB st := by omega
      subst this
      rw [den_X7_widest_L44, w.n, if_pos (nI_le (Nat.le_refl _) (by omega))]
      rfl
  | succ d ih =>
    intro fu k hk hf
    cases fu with
    | zero => omega
    | succ fu =>
      have hI := ih fu (k + 1) (by omega) (by omega)
      have ht := bitt hS (show k < 31 by omega)
      have e : cntN (qB st 0 b) (k + 1) = cntN (qB st 0 b) k + (if qB st 0 b k = true then 1 else 0) := rfl
      have eq : (if ((q.1 >>> (nI k &&& 31)) &&& (1 : Int32)) = (1 : Int32) then bnd (den_X7_isUnder st (nI k) (nI b)) (fun q17 => if q17 = (0 : Int32) then some (0 : Int32) else some 1) else some 0) = some (nI (if qB st 0 b k = true then 1 else 0)) := by
        rw [hq, m_under w hb (by omega), bnd_s]
        unfold qB
        rw [decide_eq_true (Nat.zero_le k), Bool.true_and]
        by_cases c : rS st (nB st) / 2 ^ k % 2 = 1
        · rw [if_pos (ht.mpr c), rB_iff.mpr c, Bool.true_and]
          by_cases c2 : VV st 0 17 k b = true
          · rw [if_pos c2, if_pos c2, if_neg (show ¬ (1 : Int32) = 0 by decide)]; rfl
          · rw [if_neg c2, if_neg c2, if_pos rfl]; rfl
        · have hr : rB st k = false := by
            cases h : rB st k with
            | false => rfl
            | true => exact absurd (rB_iff.mp h) c
          rw [if_neg (fun z => c (ht.mp z)), hr, Bool.false_and, if_neg Bool.false_ne_true]; rfl
      rw [den_X7_widest_L44, if_neg (show ¬ st 3 ≤ nI k by rw [w.n]; exact nI_ge (by omega) (by omega)), eq, bnd_s, nI_add, li1, nI_add, ← e]
      exact hI
def cvI (st : Nat → Int32) (y z : Int32) : Prop := (y = -6 ∧ z = -6) ∨ ∃ i, i < nB st ∧ y = nI i ∧ z = nI (cnB st 0 i)
theorem k_pick_L {se na un ma fi vo ba wr st : Nat → Int32} {bl : Int32} (r : RT se bl na un ma fi vo ba wr st) {q5 : Int32 × Int32 × Int32 × (Nat → Int32) × (Nat → Int32) × Int32 × Int32 × (Nat → Int32) × (Nat → Int32)} {q6 : Int32 × (Nat → Int32)} (h5 : q5.1 = nI (rS st (nB st))) (h6 : q6.1 = nI (rS st (nB st))) {bw : Nat → Int32} (hbw : ∀ b, b < nB st → bw b = nI (cnB st 0 b)) : ∀ (d fu k : Nat) (y z : Int32), k + d = nB st → d < fu → cvI st y z → (y = -6 → ∀ j, j < k → ¬ rS st (nB st) / 2 ^ j % 2 = 1) →
    ∃ y' z', den_X6_widest_L35 bl q5 bw fu y (nI k) = some y' ∧ den_X7_widest_L27 st q6 fu y z (nI k) = some (y', z') ∧ cvI st y' z' ∧ ((y' = y ∧ z' = z) ∨ ∃ j, j < nB st ∧ rS st (nB st) / 2 ^ j % 2 = 1) ∧ (y' = -6 → ∀ j, j < nB st → ¬ rS st (nB st) / 2 ^ j % 2 = 1) := by
  have w := r.1
  have h16 := w.n16
  have hS := p2_31 (rS_lt st (nB st)) h16
  intro d
  induction d with
  | zero =>
    intro fu k y z hk hf hv hz
    cases fu with
    | zero => omega
    | succ fu =>
      have : k = nB st := by omega
      subst this
      rw [den_X6_widest_L35, den_X7_widest_L27, if_pos (show bl ≤ nI (nB st) by rw [r.blI]; exact nI_le (Nat.le_refl _) (by omega)), if_pos (show st 3 ≤ nI (nB st) by rw [w.n]; exact nI_le (Nat.le_refl _) (by omega))]
      exact ⟨y, z, rfl, rfl, hv, Or.inl ⟨rfl, rfl⟩, hz⟩
  | succ d ih =>
    intro fu k y z hk hf hv hz
    cases fu with
    | zero => omega
    | succ fu =>
      have ht := bitt hS (show k < 31 by omega)
      have hc := m_cnt_L w h6 (b := k) (by omega) (nB st) FU 0 (by omega) (by rw [FU_eq]; omega)
      rw [show nI (cntN (qB st 0 k) 0) = (0 : Int32) from rfl, show nI 0 = (0 : Int32) from rfl] at hc
      have hle := cnB_le st 0 k
      rw [den_X6_widest_L35, den_X7_widest_L27, if_neg (show ¬ bl ≤ nI k by rw [r.blI]; exact nI_ge (by omega) (by omega)), if_neg (show ¬ st 3 ≤ nI k by rw [w.n]; exact nI_ge (by omega) (by omega)), h5, c_holds hS (by omega), bnd_s, hc, bnd_s, h6, nm_d, show nI k + (1 : Int32) = nI (k + 1) by rw [li1, nI_add]]
      by_cases c : rS st (nB st) / 2 ^ k % 2 = 1
      · rw [if_pos c, if_neg (show ¬ (1 : Int32) = 0 by decide), if_pos (ht.mpr c)]
        have take : ∃ y' z', den_X6_widest_L35 bl q5 bw fu (nI k) (nI (k + 1)) = some y' ∧ den_X7_widest_L27 st q6 fu (nI k) (nI (cnB st 0 k)) (nI (k + 1)) = some (y', z') ∧ cvI st y' z' ∧ ((y' = y ∧ z' = z) ∨ ∃ j, j < nB st ∧ rS st (nB st) / 2 ^ j % 2 = 1) ∧ (y' = -6 → ∀ j, j < nB st → ¬ rS st (nB st) / 2 ^ j % 2 = 1) := by
          obtain ⟨y', z', a1, a2, a3, -, a4⟩ := ih fu (k + 1) (nI k) (nI (cnB st 0 k)) (by omega) (by omega) (Or.inr ⟨k, by omega, rfl, rfl⟩) (fun q => absurd q (nI_ne6 (by omega)))
          exact ⟨y', z', a1, a2, a3, Or.inr ⟨k, by omega, c⟩, a4⟩
        rcases hv with ⟨e1, e2⟩ | ⟨i, hi, e1, e2⟩
        · subst e1; subst e2
          have hn6 : ¬ nI (cnB st 0 k) ≤ (-6 : Int32) := fun q => by
            rw [le_iff, nI_toInt (by omega), show (-6 : Int32).toInt = -6 by decide] at q; omega
          rw [if_pos (show (-6 : Int32) = -6 from rfl), if_neg hn6, bnd_s, if_neg (show ¬ (1 : Int32) = 0 by decide), bnd_s, if_neg (show ¬ (1 : Int32) = 0 by decide)]
          exact take
        · subst e1; subst e2
          have hle2 := cnB_le st 0 i
          rw [if_neg (nI_ne6 (by omega)), gdI (by omega) (by omega), gdI (by omega) (by omega), nI_clamp (by omega), nI_clamp (by omega), hbw k (by omega), hbw i hi]
          by_cases c2 : cnB st 0 k ≤ cnB st 0 i
          · have hl : nI (cnB st 0 k) ≤ nI (cnB st 0 i) := nI_le c2 (by omega)
            rw [if_pos hl, if_pos hl, bnd_s, if_pos rfl, bnd_s, if_pos rfl]
            exact ih fu (k + 1) (nI i) (nI (cnB st 0 i)) (by omega) (by omega) (Or.inr ⟨i, hi, rfl, rfl⟩) (fun q => absurd q (nI_ne6 (by omega)))
          · have hl : ¬ nI (cnB st 0 k) ≤ nI (cnB st 0 i) := nI_ge (by omega) (by omega)
            rw [if_neg hl, if_neg hl, bnd_s, if_neg (show ¬ (1 : Int32) = 0 by decide), bnd_s, if_neg (show ¬ (1 : Int32) = 0 by decide)]
            exact take
      · rw [if_neg c, if_pos rfl, if_neg (fun q => c (ht.mp q)), bnd_s, if_pos rfl, bnd_s, if_pos rfl]
        exact ih fu (k + 1) y z (by omega) (by omega) hv (fun q j hj => by
          by_cases e : j = k
          · subst e; exact c
          · exact hz q j (by omega))
