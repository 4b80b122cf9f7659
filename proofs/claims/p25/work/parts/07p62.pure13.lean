/-! near -/
def cntN (P : Nat → Bool) : Nat → Nat
  | 0 => 0
  | n + 1 => cntN P n + (if P n = true then 1 else 0)
theorem cntN_le (P : Nat → Bool) : ∀ n, cntN P n ≤ n
  | 0 => Nat.le_refl 0
  | n + 1 => by
    have h := cntN_le P n
    show cntN P n + (if P n = true then 1 else 0) ≤ n + 1
    split <;> omega
theorem cntN_lt {P : Nat → Bool} {k : Nat} (hk : P k = false) : ∀ {n}, k < n → cntN P n < n
  | 0, h => by omega
  | n + 1, h => by
    show cntN P n + (if P n = true then 1 else 0) < n + 1
    have h1 := cntN_le P n
    by_cases e : k = n
    · subst e; rw [hk, if_neg (by decide)]; omega
    · have h2 := cntN_lt hk (n := n) (by omega)
      split <;> omega
theorem cntN_mono {P Q : Nat → Bool} : ∀ {n}, (∀ k, k < n → P k = true → Q k = true) → cntN P n ≤ cntN Q n
  | 0, _ => Nat.le_refl 0
  | n + 1, h => by
    have h1 := cntN_mono (n := n) (fun k hk => h k (by omega))
    have h2 := h n (by omega)
    show cntN P n + (if P n = true then 1 else 0) ≤ cntN Q n + (if Q n = true then 1 else 0)
    by_cases c : P n = true
    · rw [if_pos c, if_pos (h2 c)]; omega
    · rw [if_neg c]; omega
theorem cntN_strict {P Q : Nat → Bool} {k : Nat} (hP : P k = false) (hQ : Q k = true) : ∀ {n}, k < n → (∀ k, k < n → P k = true → Q k = true) → cntN P n < cntN Q n
  | 0, h, _ => by omega
  | n + 1, h, hs => by
    show cntN P n + (if P n = true then 1 else 0) < cntN Q n + (if Q n = true then 1 else 0)
    by_cases e : k = n
    · subst e
      have h1 := cntN_mono (n := k) (fun j hj => hs j (by omega))
      rw [hP, hQ, if_neg (by decide), if_pos rfl]; omega
    · have h1 := cntN_strict hP hQ (n := n) (by omega) (fun j hj => hs j (by omega))
      have h2 := hs n (by omega)
      by_cases c : P n = true
      · rw [if_pos c, if_pos (h2 c)]; omega
      · rw [if_neg c]; omega
theorem pigeon : ∀ (n : Nat) (f : Nat → Nat), (∀ i, i < n → f i < n) → (∀ i j, i < n → j < n → f i = f j → i = j) → ∀ p, p < n → ∃ i, i < n ∧ f i = p
  | 0, _, _, _, p, hp => by omega
  | n + 1, f, hf, hi, p, hp => by
    have hk := hf n (by omega)
    have ih := pigeon n (fun i => if f i = n then f n else f i) (fun i h => by
      show (if f i = n then f n else f i) < n
      have h1 := hf i (by omega)
      by_cases c : f i = n
      · rw [if_pos c]
        have : f n ≠ n := fun q => by have := hi i n (by omega) (by omega) (by rw [c, q]); omega
        omega
      · rw [if_neg c]; omega) (fun i j h1 h2 h3 => by
      have h3 : (if f i = n then f n else f i) = (if f j = n then f n else f j) := h3
      by_cases c : f i = n
      · by_cases d : f j = n
        · exact hi i j (by omega) (by omega) (by rw [c, d])
        · rw [if_pos c, if_neg d] at h3
          have := hi n j (by omega) (by omega) h3; omega
      · by_cases d : f j = n
        · rw [if_neg c, if_pos d] at h3
          have := hi i n (by omega) (by omega) h3; omega
        · rw [if_neg c, if_neg d] at h3
          exact hi i j (by omega) (by omega) h3)
    by_cases e : p = f n
    · exact ⟨n, by omega, e.symm⟩
    · by_cases e2 : p = n
      · obtain ⟨i, h1, h2⟩ := ih (f n) (by omega)
        have h2 : (if f i = n then f n else f i) = f n := h2
        by_cases c : f i = n
        · exact ⟨i, by omega, by rw [c, e2]⟩
        · rw [if_neg c] at h2
          have := hi i n (by omega) (by omega) h2; omega
      · obtain ⟨i, h1, h2⟩ := ih p (by omega)
        have h2 : (if f i = n then f n else f i) = p := h2
        by_cases c : f i = n
        · rw [if_pos c] at h2; exact absurd h2.symm e
        · rw [if_neg c] at h2
          exact ⟨i, by omega, h2⟩
def ctN (st : Nat → Int32) (x : Int32) : Int32 := (x - ((x * (st 2)) / (100 : Int32))) - (x - ((x * (st 2)) / (100 : Int32))) / (1000 : Int32) * (1000 : Int32)
def szI (x : Int32) : Int32 := if x < 0 then 0 - x else x
def dsI (st : Nat → Int32) (p : Int32) (b : Nat) : Int32 := if (1000 : Int32) - szI (ctN st (nI (FF st b)) - p) < szI (ctN st (nI (FF st b)) - p) then (1000 : Int32) - szI (ctN st (nI (FF st b)) - p) else szI (ctN st (nI (FF st b)) - p)
theorem c_dist {se na un ma fi vo ba wr st : Nat → Int32} {bl : Int32} (r : RT se bl na un ma fi vo ba wr st) {b : Nat} (hb : b ≤ nB st) (p : Int32) : den_X4_distanceOf se fi (nI b) p = some (dsI st p b) := by
  have h16 := r.1.n16
  unfold den_X4_distanceOf den_X4_counterOf
  rw [gdI (by omega) (by omega), nI_clamp (by omega), r.fi hb, r.2.1.2.2, bnd_s, nm_d, nm_d]
  have e : (if (0 : Int32) ≤ ctN st (nI (FF st b)) - p then ctN st (nI (FF st b)) - p else 0 - (ctN st (nI (FF st b)) - p)) = szI (ctN st (nI (FF st b)) - p) := by
    unfold szI
    by_cases c : ctN st (nI (FF st b)) - p < 0
    · rw [if_pos c, if_neg (fun q => by rw [lt_iff] at c; rw [le_iff] at q; omega)]
    · rw [if_neg c, if_pos (by rw [lt_iff] at c; rw [le_iff]; omega)]
  show some (if (1000 : Int32) - (if (0 : Int32) ≤ ctN st (nI (FF st b)) - p then ctN st (nI (FF st b)) - p else 0 - (ctN st (nI (FF st b)) - p)) < (if (0 : Int32) ≤ ctN st (nI (FF st b)) - p then ctN st (nI (FF st b)) - p else 0 - (ctN st (nI (FF st b)) - p)) then (1000 : Int32) - (if (0 : Int32) ≤ ctN st (nI (FF st b)) - p then ctN st (nI (FF st b)) - p else 0 - (ctN st (nI (FF st b)) - p)) else (if (0 : Int32) ≤ ctN st (nI (FF st b)) - p then ctN st (nI (FF st b)) - p else 0 - (ctN st (nI (FF st b)) - p))) = _
  rw [e]
  rfl
theorem m_size (x : Int32) : den_X7_size x = some (szI x) := by
  unfold den_X7_size szI
  by_cases c : x < 0
  · rw [if_pos c, if_neg (fun q => by rw [lt_iff] at c; rw [le_iff] at q; omega), Int32.zero_sub]
  · rw [if_neg c, if_pos (by rw [lt_iff] at c; rw [le_iff]; omega)]
theorem m_far {st : Nat → Int32} (h : WF st) {b : Nat} (hb : b ≤ nB st) (p : Int32) : den_X7_farFrom st (nI b) p = some (dsI st p b) := by
  have h16 := h.n16
  unfold den_X7_farFrom
  rw [m_first h hb, bnd_s, show den_X7_counterOf st (nI (FF st b)) = some (ctN st (nI (FF st b))) from rfl, bnd_s, m_size, bnd_s]
  unfold dsI
  by_cases c : (1000 : Int32) - szI (ctN st (nI (FF st b)) - p) < szI (ctN st (nI (FF st b)) - p)
  · rw [if_pos c, if_pos (by rw [lt_iff] at c; rw [le_iff]; omega)]
  · rw [if_neg c]
    by_cases c2 : (1000 : Int32) - szI (ctN st (nI (FF st b)) - p) ≤ szI (ctN st (nI (FF st b)) - p)
    · rw [if_pos c2]
      have e : (1000 : Int32) - szI (ctN st (nI (FF st b)) - p) = szI (ctN st (nI (FF st b)) - p) := by
        apply Int32.toInt_inj.mp
        rw [lt_iff] at c; rw [le_iff] at c2; omega
      rw [e]
    · rw [if_neg c2]
def nrB (st : Nat → Int32) (p : Int32) (b z : Nat) : Bool := decide (dsI st p z < dsI st p b ∨ (dsI st p z = dsI st p b ∧ z < b))
theorem nrB_iff {st : Nat → Int32} {p : Int32} {b z : Nat} : nrB st p b z = true ↔ ((dsI st p z).toInt < (dsI st p b).toInt ∨ ((dsI st p z).toInt = (dsI st p b).toInt ∧ z < b)) := by
  unfold nrB
  rw [decide_eq_true_eq, lt_iff, Int32.toInt_inj]
theorem nrB_self (st : Nat → Int32) (p : Int32) (b : Nat) : nrB st p b b = false := by
  cases h : nrB st p b b with
  | false => rfl
  | true => rw [nrB_iff] at h; omega
theorem rank_inj (st : Nat → Int32) (p : Int32) (n : Nat) : ∀ i j, i < n → j < n → cntN (nrB st p i) n = cntN (nrB st p j) n → i = j := by
  have key : ∀ i j, i < n → nrB st p j i = true → cntN (nrB st p i) n < cntN (nrB st p j) n := fun i j hi hij => by
    refine cntN_strict (k := i) (nrB_self st p i) hij hi (fun z _ hz => ?_)
    rw [nrB_iff] at *
    omega
  intro i j hi hj h
  by_cases e : i = j
  · exact e
  · by_cases c : nrB st p j i = true
    · have := key i j hi c; omega
    · have c2 : nrB st p i j = true := by
        rw [nrB_iff] at *; omega
      have := key j i hj c2; omega
theorem c_nr_L {se na un ma fi vo ba wr st : Nat → Int32} {bl : Int32} (r : RT se bl na un ma fi vo ba wr st) {b : Nat} (hb : b < nB st) (p : Int32) : ∀ (d fu k : Nat), k + d = nB st → d < fu →
    den_X4_nearerBlocks_L13 (nI b) p se bl fi (dsI st p b) fu (nI (cntN (nrB st p b) k)) (nI k) = some (nI (cntN (nrB st p b) (nB st))) := by
  have h16 := r.1.n16
  intro d
  induction d with
  | zero =>
    intro fu k hk hf
    cases fu with
    | zero => omega
    | succ fu =>
      have : k = nB st := by omega
      subst this
      rw [den_X4_nearerBlocks_L13, if_pos (show bl ≤ nI (nB st) by rw [r.blI]; exact nI_le (Nat.le_refl _) (by omega))]
  | succ d ih =>
    intro fu k hk hf
    cases fu with
    | zero => omega
    | succ fu =>
      have hI := ih fu (k + 1) (by omega) (by omega)
      have e : cntN (nrB st p b) (k + 1) = cntN (nrB st p b) k + (if nrB st p b k = true then 1 else 0) := rfl
      have hiff := nrB_iff (st := st) (p := p) (b := b) (z := k)
      rw [den_X4_nearerBlocks_L13, if_neg (show ¬ bl ≤ nI k by rw [r.blI]; exact nI_ge (by omega) (by omega)), c_dist r (by omega), bnd_s, show nI k + (1 : Int32) = nI (k + 1) by rw [li1, nI_add], show nI (cntN (nrB st p b) k) + (1 : Int32) = nI (cntN (nrB st p b) k + 1) by rw [li1, nI_add]]
      have e1 : nrB st p b k = true → cntN (nrB st p b) k + 1 = cntN (nrB st p b) (k + 1) := fun q => by rw [e, if_pos q]
      have e0 : ¬ nrB st p b k = true → cntN (nrB st p b) k = cntN (nrB st p b) (k + 1) := fun q => by rw [e, if_neg q]; rfl
      by_cases c : dsI st p k < dsI st p b
      · rw [if_pos c, e1 (hiff.mpr (by rw [lt_iff] at c; omega))]; exact hI
      · rw [if_neg c]
        by_cases c2 : dsI st p k = dsI st p b
        · rw [if_pos c2]
          by_cases c3 : b ≤ k
          · rw [if_pos (nI_le c3 (by omega)), e0 (fun q => by have := hiff.mp q; rw [lt_iff] at c; omega)]; exact hI
          · rw [if_neg (nI_ge (by omega) (by omega)), e1 (hiff.mpr (Or.inr ⟨by rw [c2], by omega⟩))]; exact hI
        · rw [if_neg c2, e0 (fun q => by have := hiff.mp q; rw [lt_iff] at c; rw [← Int32.toInt_inj] at c2; omega)]; exact hI
theorem c_nr {se na un ma fi vo ba wr st : Nat → Int32} {bl : Int32} (r : RT se bl na un ma fi vo ba wr st) {b : Nat} (hb : b < nB st) (p : Int32) : den_X4_nearerBlocks se bl fi (nI b) p = some (nI (cntN (nrB st p b) (nB st))) := by
  have h16 := r.1.n16
  have h := c_nr_L r hb p (nB st) FU 0 (by omega) (by rw [FU_eq]; omega)
  rw [show nI (cntN (nrB st p b) 0) = (0 : Int32) from rfl, show nI 0 = (0 : Int32) from rfl] at h
  unfold den_X4_nearerBlocks
  rw [c_dist r (by omega), bnd_s, h, bnd_s]
theorem m_nr_L {st : Nat → Int32} (h : WF st) {b : Nat} (hb : b < nB st) (p : Int32) : ∀ (d fu k : Nat), k + d = nB st → d < fu →
    den_X7_near_L55 p st (nI b) fu (nI (cntN (nrB st p b) k)) (nI k) = some (nI (cntN (nrB st p b) (nB st))) := by
  have h16 := h.n16
  intro d
  induction d with
  | zero =>
    intro fu k hk hf
    cases fu with
    | zero => omega
    | succ fu =>
      have : k = nB st := by omega
      subst this
      rw [den_X7_near_L55, h.n, if_pos (nI_le (Nat.le_refl _) (by omega))]
  | succ d ih =>
    intro fu k hk hf
    cases fu with
    | zero => omega
    | succ fu =>
      have hI := ih fu (k + 1) (by omega) (by omega)
      have e : cntN (nrB st p b) (k + 1) = cntN (nrB st p b) k + (if nrB st p b k = true then 1 else 0) := rfl
      have hiff := nrB_iff (st := st) (p := p) (b := b) (z := k)
      rw [den_X7_near_L55, if_neg (show ¬ st 3 ≤ nI k by rw [h.n]; exact nI_ge (by omega) (by omega)), m_far h (by omega), bnd_s, m_far h (by omega), bnd_s, bnd_s, bnd_s]
      have eq : (if dsI st p k < dsI st p b then some (1 : Int32) else (if dsI st p k = dsI st p b then (if nI b ≤ nI k then some (0 : Int32) else some 1) else some 0)) = some (nI (if nrB st p b k = true then 1 else 0)) := by
        by_cases c : dsI st p k < dsI st p b
        · rw [if_pos c, if_pos (hiff.mpr (by rw [lt_iff] at c; omega))]; rfl
        · rw [if_neg c]
          by_cases c2 : dsI st p k = dsI st p b
          · rw [if_pos c2]
            by_cases c3 : b ≤ k
            · rw [if_pos (nI_le c3 (by omega)), if_neg (fun q => by have := hiff.mp q; rw [lt_iff] at c; omega)]; rfl
            · rw [if_neg (nI_ge (by omega) (by omega)), if_pos (hiff.mpr (Or.inr ⟨by rw [c2], by omega⟩))]; rfl
          · rw [if_neg c2, if_neg (fun q => by have := hiff.mp q; rw [lt_iff] at c; rw [← Int32.toInt_inj] at c2; omega)]; rfl
      rw [eq, bnd_s, nI_add, li1, nI_add, ← e]
      exact hI
theorem m_near_L {st : Nat → Int32} (h : WF st) {x p : Nat} (q : Int32) (hx : x < nB st) (he : cntN (nrB st q x) (nB st) = p) : ∀ (d fu k : Nat) (y : Int32), k + d = nB st → d < fu → (x < k → y = nI x) →
    den_X7_near_L38 q (nI p) st fu y (nI k) = some (nI x) := by
  have h16 := h.n16
  intro d
  induction d with
  | zero =>
    intro fu k y hk hf hy
    cases fu with
    | zero => omega
    | succ fu =>
      have : k = nB st := by omega
      subst this
      rw [den_X7_near_L38, h.n, if_pos (nI_le (Nat.le_refl _) (by omega)), hy hx]
  | succ d ih =>
    intro fu k y hk hf hy
    cases fu with
    | zero => omega
    | succ fu =>
      have hn := m_nr_L h (b := k) (by omega) q (nB st) FU 0 (by omega) (by rw [FU_eq]; omega)
      rw [show nI (cntN (nrB st q k) 0) = (0 : Int32) from rfl, show nI 0 = (0 : Int32) from rfl] at hn
      have h1 := cntN_le (nrB st q k) (nB st)
      have h2 := cntN_le (nrB st q x) (nB st)
      rw [den_X7_near_L38, if_neg (show ¬ st 3 ≤ nI k by rw [h.n]; exact nI_ge (by omega) (by omega)), hn, bnd_s, show nI k + (1 : Int32) = nI (k + 1) by rw [li1, nI_add]]
      by_cases c : cntN (nrB st q k) (nB st) = p
      · have e : k = x := rank_inj st q (nB st) k x (by omega) hx (by rw [c, he])
        rw [if_pos (by rw [c])]
        exact ih fu (k + 1) (nI k) (by omega) (by omega) (fun _ => by rw [e])
      · rw [if_neg (fun e => c ((nI_eq (by omega) (by omega)).mp e))]
        exact ih fu (k + 1) y (by omega) (by omega) (fun hlt => hy (by
          by_cases e : x = k
          · subst e; exact absurd he c
          · omega))
theorem c_near_L {se na un ma fi vo ba wr st : Nat → Int32} {bl : Int32} (r : RT se bl na un ma fi vo ba wr st) {x p : Nat} (q : Int32) (hx : x < nB st) (he : cntN (nrB st q x) (nB st) = p) : ∀ (d fu k : Nat), k + d = x → d < fu →
    den_X6_near_L33 q (nI p) se bl fi fu (nI k) = some (nI x) := by
  have h16 := r.1.n16
  intro d
  induction d with
  | zero =>
    intro fu k hk hf
    cases fu with
    | zero => omega
    | succ fu =>
      have : k = x := by omega
      subst this
      rw [den_X6_near_L33, if_neg (show ¬ bl ≤ nI k by rw [r.blI]; exact nI_ge (by omega) (by omega)), c_nr r hx, bnd_s, if_pos (by rw [he])]
  | succ d ih =>
    intro fu k hk hf
    cases fu with
    | zero => omega
    | succ fu =>
      have h1 := cntN_le (nrB st q k) (nB st)
      have h2 := cntN_le (nrB st q x) (nB st)
      rw [den_X6_near_L33, if_neg (show ¬ bl ≤ nI k by rw [r.blI]; exact nI_ge (by omega) (by omega)), c_nr r (by omega), bnd_s, if_neg (fun e => by
        have e2 := (nI_eq (by omega) (by omega)).mp e
        have := rank_inj st q (nB st) k x (by omega) hx (by rw [e2, he])
        omega), li1, nI_add]
      exact ih fu (k + 1) (by omega) (by omega)
theorem k_near {se na un ma fi vo ba wr st : Nat → Int32} {bl : Int32} (r : RT se bl na un ma fi vo ba wr st) (p1 p2 : Int32) : ∃ v, den_X6_near se bl fi p1 p2 = some v ∧ den_X7_near st p1 p2 = some v := by
  have w := r.1
  have h16 := w.n16
  unfold den_X6_near den_X7_near
  rw [m_within, bnd_s]
  by_cases c : p2 < 0
  · rw [if_pos c, if_pos c, if_pos rfl]; exact ⟨_, rfl, rfl⟩
  · obtain ⟨p, hp, e⟩ := nI_of c
    subst e
    rw [if_neg c, if_neg c, r.blI]
    have hlt : (st 3 - 1 < nI p) ↔ nB st ≤ p := by
      rw [lt_iff, nI_toInt hp, w.n]
      by_cases c0 : nB st = 0
      · rw [c0, show (nI 0 - 1).toInt = -1 by decide]; omega
      · rw [li1, nIs (by omega), nI_toInt (by omega)]; omega
    by_cases c1 : p < nB st
    · rw [if_pos (nI_lt c1 (by omega)), if_neg (show ¬ st 3 - 1 < nI p from fun q => by have := hlt.mp q; omega), if_neg (show ¬ (1 : Int32) = 0 by decide), m_within, bnd_s]
      by_cases c2 : p1 < 0
      · rw [if_pos c2, if_pos c2, if_pos rfl]; exact ⟨_, rfl, rfl⟩
      · rw [if_neg c2, if_neg c2]
        by_cases c3 : p1 < 1000
        · obtain ⟨x, hx, he⟩ := pigeon (nB st) (fun b => cntN (nrB st p1 b) (nB st)) (fun i hi => cntN_lt (nrB_self st p1 i) hi) (rank_inj st p1 (nB st)) p c1
          have c4 : ¬ (999 : Int32) < p1 := fun q => by
            rw [lt_iff, show (1000 : Int32).toInt = 1000 by decide] at c3
            rw [lt_iff, show (999 : Int32).toInt = 999 by decide] at q
            omega
          rw [if_pos c3, if_neg c4, if_neg (show ¬ (1 : Int32) = 0 by decide), show (0 : Int32) = nI 0 from rfl, ← r.blI, c_near_L r p1 hx he x FU 0 (by omega) (by rw [FU_eq]; omega), m_near_L w p1 hx he (nB st) FU 0 (-6) (by omega) (by rw [FU_eq]; omega) (fun q => by omega), bnd_s]
          exact ⟨_, rfl, rfl⟩
        · have c4 : (999 : Int32) < p1 := by
            rw [lt_iff, show (1000 : Int32).toInt = 1000 by decide] at c3
            rw [lt_iff, show (999 : Int32).toInt = 999 by decide]
            omega
          rw [if_neg c3, if_pos c4, if_pos rfl]; exact ⟨_, rfl, rfl⟩
    · rw [if_neg (nI_nlt (by omega) (by omega)), if_pos (hlt.mpr (by omega)), if_pos rfl]; exact ⟨_, rfl, rfl⟩
