/-! p25: the widest block, by the law and by the class -/
theorem VV_lt {st : Nat → Int32} (w : WF st) {b : Nat} : ∀ (f c : Nat), c < nB st → VV st 0 f c b = true → b < c := by
  intro f
  induction f with
  | zero => intro c _ h; exact absurd h Bool.false_ne_true
  | succ f ih =>
    intro c hc h
    rcases pr_cases w hc with ⟨h1, -⟩ | ⟨u, hu, h1, -⟩
    · rw [VV_n h1] at h; exact absurd h Bool.false_ne_true
    · rw [VV_s h1, Bool.or_eq_true, Bool.and_eq_true, decide_eq_true_eq] at h
      rcases h with h | h
      · omega
      · have := ih u (by omega) h.2; omega
theorem l_climb_L {bl st : Nat → Int32} {me : Nat → Int64} (w : WF st) (L : LB bl me st) {b : Nat} (hb : b < nB st) : ∀ (f c fu : Nat), c < f → c < fu → c < nB st →
    ∃ y, den_L_same_L1043 bl (nI b) (fu + 1) (nI c) = some y ∧ (y = nI b ↔ (c = b ∨ VV st 0 f c b = true)) := by
  have h5 := L.1
  intro f
  induction f with
  | zero => intro c fu h; omega
  | succ f ih =>
    intro c fu hc hf hn
    rw [den_L_same_L1043]
    by_cases e : c ≤ b
    · rw [if_pos (nI_le e (by omega))]
      refine ⟨nI c, rfl, ?_⟩
      rw [nI_eq (by omega) (by omega)]
      constructor
      · intro h; exact Or.inl h
      · intro h
        rcases h with h | h
        · exact h
        · have := VV_lt w _ c hn h; omega
    · rw [if_neg (nI_ge (by omega) (by omega)), show (8 : Int32) * nI c = nI (8 * c) by rw [li8, pk_mul], li1, nI_add, gdI (by omega) (by omega), nI_clamp (by omega), (L.2.1 c hn).2.2.1, nm_d]
      cases fu with
      | zero => omega
      | succ fu =>
        rcases pr_cases w hn with ⟨h, hs⟩ | ⟨u, hu, h, hs⟩
        · rw [hs, den_L_same_L1043, if_pos (show (-6 : Int32) ≤ nI b by rw [le_iff, nI_toInt (by omega), show (-6 : Int32).toInt = -6 by decide]; omega)]
          refine ⟨-6, rfl, ?_⟩
          rw [VV_n h]
          constructor
          · intro q; exact absurd q.symm (nI_ne6 (by omega))
          · intro q
            rcases q with q | q
            · omega
            · exact absurd q Bool.false_ne_true
        · rw [hs]
          obtain ⟨y, e1, e2⟩ := ih u fu (by omega) (by omega) (by omega)
          refine ⟨y, e1, ?_⟩
          rw [e2, VV_s h, decide_eq_true (Nat.zero_le u), Bool.true_and, Bool.or_eq_true, decide_eq_true_eq]
          constructor
          · intro q; exact Or.inr q
          · intro q
            rcases q with q | q
            · omega
            · exact q
theorem l_cnt_L {q bl st : Nat → Int32} {me : Nat → Int64} (w : WF st) (L : LB bl me st) (h3 : q 3 = nI (nB st)) {q1 : Int32 × Int32 × Int32 × RV × (Nat → Int32)} (hr : q1.2.2.1 = nI (rS st (nB st))) {b : Nat} (hb : b < nB st) : ∀ (d fu k : Nat), k + d = nB st → b < k → d < fu →
    den_L_same_L1031 q bl q1 (nI b) fu (nI (cntN (qB st 0 b) k)) (nI k) = some (nI (cnB st 0 b)) := by
  have h5 := L.1
  have hS := p2_31 (rS_lt st (nB st)) w.n16
  intro d
  induction d with
  | zero =>
    intro fu k hk hbk hf
    cases fu with
    | zero => omega
    | succ fu =>
      have : k = nB st := by omega
      subst this
      rw [den_L_same_L1031, h3, if_pos (nI_le (Nat.le_refl _) (by omega))]
      rfl
  | succ d ih =>
    intro fu k hk hbk hf
    cases fu with
    | zero => omega
    | succ fu =>
      obtain ⟨y, e1, e2⟩ := l_climb_L w L hb 17 k 39999 (by omega) (by omega) (by omega)
      have ht := bitt hS (show k < 31 by omega)
      have e : cntN (qB st 0 b) (k + 1) = cntN (qB st 0 b) k + (if qB st 0 b k = true then 1 else 0) := rfl
      have eq : (if y = nI b then (if ((q1.2.2.1 >>> (nI k &&& 31)) &&& (1 : Int32)) = (1 : Int32) then some (1 : Int32) else some 0) else some (0 : Int32)) = some (nI (if qB st 0 b k = true then 1 else 0)) := by
        rw [hr]
        unfold qB
        rw [decide_eq_true (Nat.zero_le k), Bool.true_and]
        by_cases c : y = nI b
        · have hv : VV st 0 17 k b = true := by
            rcases e2.mp c with z | z
            · omega
            · exact z
          rw [if_pos c, hv, Bool.and_true]
          by_cases c2 : rS st (nB st) / 2 ^ k % 2 = 1
          · rw [if_pos (ht.mpr c2), rB_iff.mpr c2]; rfl
          · rw [if_neg (fun z => c2 (ht.mp z)), if_neg (fun z => c2 (rB_iff.mp z))]; rfl
        · have hv : ¬ VV st 0 17 k b = true := fun z => c (e2.mpr (Or.inr z))
          rw [if_neg c, if_neg (fun z => by rw [Bool.and_eq_true] at z; exact hv z.2)]; rfl
      rw [den_L_same_L1031, h3, if_neg (nI_ge (by omega) (by omega)), show den_L_same_L1043 bl (nI b) FU (nI k) = some y by rw [FU_eq]; exact e1, bnd_s, eq, bnd_s, nI_add, li1, nI_add, ← e]
      exact ih fu (k + 1) (by omega) (by omega) (by omega)
theorem l_cnt {q bl st : Nat → Int32} {me : Nat → Int64} (w : WF st) (L : LB bl me st) (h3 : q 3 = nI (nB st)) {q1 : Int32 × Int32 × Int32 × RV × (Nat → Int32)} (hr : q1.2.2.1 = nI (rS st (nB st))) {b : Nat} (hb : b < nB st) : den_L_same_L1031 q bl q1 (nI b) FU (0 : Int32) (nI (b + 1)) = some (nI (cnB st 0 b)) := by
  have h5 := L.1
  have h0 : cntN (qB st 0 b) (b + 1) = 0 := cntN_0 (fun k hk => by
    unfold qB
    cases h : VV st 0 17 k b with
    | false => rw [Bool.and_false, Bool.and_false]
    | true => have := VV_lt w 17 k (by omega) h; omega)
  have h := l_cnt_L w L h3 hr hb (nB st - (b + 1)) FU (b + 1) (by omega) (by omega) (by rw [FU_eq]; omega)
  rw [h0, show nI 0 = (0 : Int32) from rfl] at h
  exact h
/-- i is the widest of the reached blocks in [lo, hi) -/
def bst (st : Nat → Int32) (lo hi i : Nat) : Prop := lo ≤ i ∧ i < hi ∧ rB st i = true ∧ ∀ j, lo ≤ j → j < hi → rB st j = true → cnB st 0 j < cnB st 0 i ∨ (cnB st 0 j = cnB st 0 i ∧ i ≤ j)
def bstI (st : Nat → Int32) (lo hi : Nat) (y z : Int32) : Prop := (y = -6 ∧ z = -6 ∧ ∀ j, lo ≤ j → j < hi → ¬ rB st j = true) ∨ ∃ i, y = nI i ∧ z = nI (cnB st 0 i) ∧ bst st lo hi i
theorem bst_one {st : Nat → Int32} {hi : Nat} {y z y' z' : Int32} (h : bstI st 0 hi y z) (h' : bstI st 0 hi y' z') : y = y' ∧ z = z' := by
  rcases h with ⟨a1, a2, a3⟩ | ⟨i, a1, a2, b1, b2, b3, b4⟩ <;> rcases h' with ⟨c1, c2, c3⟩ | ⟨j, c1, c2, d1, d2, d3, d4⟩
  · exact ⟨a1.trans c1.symm, a2.trans c2.symm⟩
  · exact absurd d3 (a3 j d1 d2)
  · exact absurd b3 (c3 i b1 b2)
  · have h1 := b4 j d1 d2 d3
    have h2 := d4 i b1 b2 b3
    have e : i = j := by omega
    subst e
    exact ⟨a1.trans c1.symm, a2.trans c2.symm⟩
theorem l_wide_L {q bl st : Nat → Int32} {me : Nat → Int64} (w : WF st) (L : LB bl me st) (h3 : q 3 = nI (nB st)) {q1 : Int32 × Int32 × Int32 × RV × (Nat → Int32)} (hr : q1.2.2.1 = nI (rS st (nB st))) : ∀ (k fu : Nat) (y z : Int32), k ≤ nB st → k < fu → bstI st k (nB st) y z →
    ∃ y' z', den_L_same_L1004 q bl q1 fu y z (nI k - 1) = some (y', z') ∧ bstI st 0 (nB st) y' z' := by
  have h5 := L.1
  have hS := p2_31 (rS_lt st (nB st)) w.n16
  intro k
  induction k with
  | zero =>
    intro fu y z hk hf h
    cases fu with
    | zero => omega
    | succ fu =>
      rw [den_L_same_L1004, if_pos (show nI 0 - 1 < 0 by decide)]
      exact ⟨y, z, rfl, h⟩
  | succ k ih =>
    intro fu y z hk hf h
    cases fu with
    | zero => omega
    | succ fu =>
      have e1 : (q1.2.2.1 >>> (nI k &&& 31)) &&& (1 : Int32) = nI (rS st (nB st) / 2 ^ k % 2) := by rw [hr, shrJ hS (by omega), li1, and1]
      have hle := cnB_le st 0 k
      rw [den_L_same_L1004, nI_pred, if_neg (nI_pos (by omega)), e1, show nI k + (-1 : Int32) = nI k - 1 from (Int32.sub_eq_add_neg _ _).symm]
      by_cases c : rS st (nB st) / 2 ^ k % 2 = 1
      · have hrk := rB_iff.mpr c
        rw [c, if_neg (show ¬ nI 1 = (0 : Int32) by decide), show nI k + (1 : Int32) = nI (k + 1) by rw [li1, nI_add], l_cnt w L h3 hr (by omega), bnd_s]
        rcases h with ⟨a1, a2, a3⟩ | ⟨i, a1, a2, b1, b2, b3, b4⟩
        · subst a1; subst a2
          rw [if_pos (show (-6 : Int32) ≤ nI (cnB st 0 k) by rw [le_iff, nI_toInt (by omega), show (-6 : Int32).toInt = -6 by decide]; omega)]
          refine ih fu _ _ (by omega) (by omega) (Or.inr ⟨k, rfl, rfl, Nat.le_refl _, by omega, hrk, fun j hj hn hrj => ?_⟩)
          by_cases ej : j = k
          · subst ej; exact Or.inr ⟨rfl, Nat.le_refl _⟩
          · exact absurd hrj (a3 j (by omega) hn)
        · subst a1; subst a2
          have hle2 := cnB_le st 0 i
          by_cases c2 : cnB st 0 i ≤ cnB st 0 k
          · rw [if_pos (nI_le c2 (by omega))]
            refine ih fu _ _ (by omega) (by omega) (Or.inr ⟨k, rfl, rfl, Nat.le_refl _, by omega, hrk, fun j hj hn hrj => ?_⟩)
            by_cases ej : j = k
            · subst ej; exact Or.inr ⟨rfl, Nat.le_refl _⟩
            · have := b4 j (by omega) hn hrj
              omega
          · rw [if_neg (nI_ge (by omega) (by omega))]
            refine ih fu _ _ (by omega) (by omega) (Or.inr ⟨i, rfl, rfl, by omega, b2, b3, fun j hj hn hrj => ?_⟩)
            by_cases ej : j = k
            · subst ej; exact Or.inl (by omega)
            · exact b4 j (by omega) hn hrj
      · have h0 : rS st (nB st) / 2 ^ k % 2 = 0 := by omega
        rw [h0, if_pos (show nI 0 = (0 : Int32) from rfl)]
        refine ih fu y z (by omega) (by omega) ?_
        rcases h with ⟨a1, a2, a3⟩ | ⟨i, a1, a2, b1, b2, b3, b4⟩
        · refine Or.inl ⟨a1, a2, fun j hj hn hrj => ?_⟩
          by_cases ej : j = k
          · subst ej; exact c (rB_iff.mp hrj)
          · exact a3 j (by omega) hn hrj
        · refine Or.inr ⟨i, a1, a2, by omega, b2, b3, fun j hj hn hrj => ?_⟩
          by_cases ej : j = k
          · subst ej; exact absurd (rB_iff.mp hrj) c
          · exact b4 j (by omega) hn hrj
theorem c_pick_L {se na un ma fi vo ba wr st : Nat → Int32} {bl : Int32} (r : RT se bl na un ma fi vo ba wr st) {q5 : Int32 × Int32 × Int32 × (Nat → Int32) × (Nat → Int32) × Int32 × Int32 × (Nat → Int32) × (Nat → Int32)} (h5 : q5.1 = nI (rS st (nB st))) {bw : Nat → Int32} (hbw : ∀ b, b < nB st → bw b = nI (cnB st 0 b)) : ∀ (d fu k : Nat) (y z : Int32), k + d = nB st → d < fu → bstI st 0 k y z →
    ∃ y' z', den_X6_widest_L35 bl q5 bw fu y (nI k) = some y' ∧ bstI st 0 (nB st) y' z' := by
  have w := r.1
  have h16 := w.n16
  have hS := p2_31 (rS_lt st (nB st)) h16
  intro d
  induction d with
  | zero =>
    intro fu k y z hk hf hv
    cases fu with
    | zero => omega
    | succ fu =>
      have : k = nB st := by omega
      subst this
      rw [den_X6_widest_L35, if_pos (show bl ≤ nI (nB st) by rw [r.blI]; exact nI_le (Nat.le_refl _) (by omega))]
      exact ⟨y, z, rfl, hv⟩
  | succ d ih =>
    intro fu k y z hk hf hv
    cases fu with
    | zero => omega
    | succ fu =>
      have hle := cnB_le st 0 k
      rw [den_X6_widest_L35, if_neg (show ¬ bl ≤ nI k by rw [r.blI]; exact nI_ge (by omega) (by omega)), h5, c_holds hS (by omega), bnd_s, nm_d, show nI k + (1 : Int32) = nI (k + 1) by rw [li1, nI_add]]
      by_cases c : rS st (nB st) / 2 ^ k % 2 = 1
      · have hrk := rB_iff.mpr c
        rw [if_pos c, if_neg (show ¬ (1 : Int32) = 0 by decide)]
        rcases hv with ⟨a1, a2, a3⟩ | ⟨i, a1, a2, b1, b2, b3, b4⟩
        · subst a1
          rw [if_pos (show (-6 : Int32) = -6 from rfl)]
          refine ih fu (k + 1) _ (nI (cnB st 0 k)) (by omega) (by omega) (Or.inr ⟨k, rfl, rfl, Nat.zero_le _, by omega, hrk, fun j hj hn hrj => ?_⟩)
          by_cases ej : j = k
          · subst ej; exact Or.inr ⟨rfl, Nat.le_refl _⟩
          · exact absurd hrj (a3 j hj (by omega))
        · subst a1
          have hle2 := cnB_le st 0 i
          rw [if_neg (nI_ne6 (by omega)), gdI (by omega) (by omega), gdI (by omega) (by omega), nI_clamp (by omega), nI_clamp (by omega), hbw k (by omega), hbw i (by omega)]
          by_cases c2 : cnB st 0 k ≤ cnB st 0 i
          · rw [if_pos (nI_le c2 (by omega))]
            refine ih fu (k + 1) _ (nI (cnB st 0 i)) (by omega) (by omega) (Or.inr ⟨i, rfl, rfl, b1, by omega, b3, fun j hj hn hrj => ?_⟩)
            by_cases ej : j = k
            · subst ej; omega
            · exact b4 j hj (by omega) hrj
          · rw [if_neg (nI_ge (by omega) (by omega))]
            refine ih fu (k + 1) _ (nI (cnB st 0 k)) (by omega) (by omega) (Or.inr ⟨k, rfl, rfl, Nat.zero_le _, by omega, hrk, fun j hj hn hrj => ?_⟩)
            by_cases ej : j = k
            · subst ej; exact Or.inr ⟨rfl, Nat.le_refl _⟩
            · have := b4 j hj (by omega) hrj
              exact Or.inl (by omega)
      · rw [if_neg c, if_pos rfl]
        refine ih fu (k + 1) y z (by omega) (by omega) ?_
        rcases hv with ⟨a1, a2, a3⟩ | ⟨i, a1, a2, b1, b2, b3, b4⟩
        · refine Or.inl ⟨a1, a2, fun j hj hn hrj => ?_⟩
          by_cases ej : j = k
          · subst ej; exact c (rB_iff.mp hrj)
          · exact a3 j hj (by omega) hrj
        · refine Or.inr ⟨i, a1, a2, b1, by omega, b3, fun j hj hn hrj => ?_⟩
          by_cases ej : j = k
          · subst ej; exact absurd (rB_iff.mp hrj) c
          · exact b4 j hj (by omega) hrj
theorem a_widest {T : TV} {st : Nat → Int32} (r : RTv T st) (R : RV) (B : Nat → Int32) : ∃ y z, bstI st 0 (nB st) y z ∧ (∃ R' B', wd_widest T R B (0 : Int32) = some (y, R', B')) ∧ ∃ R' B', wd_widest T R B (1 : Int32) = some (z, R', B') := by
  have w := r.1
  have h16 := w.n16
  have hS := p2_31 (rS_lt st (nB st)) h16
  obtain ⟨m0, l0, v0, w0, m1, l1, v1, w1, e⟩ := c_reached r R.1 R.2.1 R.2.2.1 R.2.2.2.1 R.2.2.2.2.1 R.2.2.2.2.2.1 R.2.2.2.2.2.2.1 R.2.2.2.2.2.2.2
  obtain ⟨bw', e3, hb⟩ := c_below r B
  obtain ⟨y, z, f1, f2⟩ := c_pick_L r (q5 := (nI (rS st (nB st)), m0, l0, v0, w0, m1, l1, v1, w1)) rfl hb (nB st) FU 0 (-6) (-6) (by omega) (by rw [FU_eq]; omega) (Or.inl ⟨rfl, rfl, fun j _ hj => by omega⟩)
  rw [show nI 0 = (0 : Int32) from rfl] at f1
  have hz6 : rS st (nB st) = 0 → y = -6 ∧ z = -6 := fun c => by
    rcases f2 with ⟨a1, a2, -⟩ | ⟨i, -, -, -, -, b3, -⟩
    · exact ⟨a1, a2⟩
    · have := rB_iff.mp b3
      rw [c, Nat.zero_div] at this
      omega
  refine ⟨y, z, f2, ?_, ?_⟩
  · unfold wd_widest den_X6_widest
    rw [nm_d, if_pos rfl, e, bnd_s, e3, bnd_s, f1, bnd_s, if_pos (show (0 : Int32) = 0 from rfl)]
    by_cases c : rS st (nB st) = 0
    · rw [if_pos (show nI (rS st (nB st)) = (0 : Int32) by rw [c]; rfl), (hz6 c).1]
      exact ⟨_, _, rfl⟩
    · rw [if_neg (show ¬ nI (rS st (nB st)) = (0 : Int32) by rw [nI_0iff hS]; exact c)]
      exact ⟨_, _, rfl⟩
  · unfold wd_widest den_X6_widest
    rw [nm_d, if_neg (show ¬ (1 : Int32) = 0 by decide), if_pos rfl, e, bnd_s, e3, bnd_s, f1, bnd_s, if_neg (show ¬ (1 : Int32) = 0 by decide)]
    by_cases c : rS st (nB st) = 0
    · rw [if_pos (show nI (rS st (nB st)) = (0 : Int32) by rw [c]; rfl), (hz6 c).2]
      exact ⟨_, _, rfl⟩
    · rw [if_neg (show ¬ nI (rS st (nB st)) = (0 : Int32) by rw [nI_0iff hS]; exact c)]
      rcases f2 with ⟨a1, a2, a3⟩ | ⟨i, a1, a2, b1, b2, b3, b4⟩
      · exact absurd (bits0 _ _ (rS_lt st (nB st)) (fun j hj z => a3 j (by omega) hj (rB_iff.mpr z))) c
      · rw [a1, a2, gdI (by omega) (by omega), nI_clamp (by omega), hb i b2]
        exact ⟨_, _, rfl⟩
