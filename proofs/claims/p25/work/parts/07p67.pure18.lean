/-! put, wipe -/
def bN (N k : Nat) : Nat := N / 2 ^ (8 * k) % 256
def isCh (n : Nat) : Prop := 33 ≤ n ∧ n ≤ 126
theorem charI {n : Nat} (hn : n < 256) : vp_nar .char (((nI n).toUInt32 % 65536).toInt32) = nI n := by
  have h : ((nI n).toUInt32 % 65536).toInt32 = nI n := by
    rw [pk_char, nI_bv]
    congr 1
    omega
  rw [h]
  unfold vp_nar
  rw [(pk_charN (by omega)).1]
theorem nx8 (x : Int64) {N k : Nat} (h : uN x = N / 2 ^ (8 * k)) : uN ((x.toUInt64 >>> ((8 : Int32).toInt64.toUInt64 &&& Int64.toUInt64 63)).toInt64) = N / 2 ^ (8 * (k + 1)) := by
  rw [uN_shr8, h, Nat.div_div_eq_div_mul, show (256 : Nat) = 2 ^ 8 from rfl, ← Nat.pow_add, Nat.mul_succ]
theorem uN0 (x : Int64) : x = 0 ↔ uN x = 0 := by
  constructor
  · intro h; subst h; rfl
  · intro h
    apply Int64.toBitVec_inj.mp
    apply BitVec.eq_of_toNat_eq
    exact h
theorem cmp0 (x : Int64) : lg_cmp x (0 : Int64) = 0 ↔ uN x = 0 := by rw [lg_cmp_eq, uN0]
theorem cmp8 (x : Int64) : lg_cmp (x &&& (255 : Int64)) (0 : Int64) = 0 ↔ uN x % 256 = 0 := by rw [cmp0, uN_and]
theorem put_bad : ∀ (d fu k : Nat) (x : Int64), k + d = 8 → d < fu → ∃ q, den_X7_put_L8 fu (nI k) x 0 = some q ∧ q.2.2 = 0 := by
  intro d
  induction d with
  | zero =>
    intro fu k x hk hf
    cases fu with
    | zero => omega
    | succ fu =>
      rw [den_X7_put_L8, if_pos (show (8 : Int32) ≤ nI k from nI_le (a := 8) (by omega) (by omega))]
      exact ⟨_, rfl, rfl⟩
  | succ d ih =>
    intro fu k x hk hf
    cases fu with
    | zero => omega
    | succ fu =>
      rw [den_X7_put_L8, if_neg (show ¬ (8 : Int32) ≤ nI k from nI_ge (b := 8) (by omega) (by omega))]
      by_cases c : lg_cmp (x &&& (255 : Int64)) (0 : Int64) = 0
      · rw [if_pos c]; exact ⟨_, rfl, rfl⟩
      · rw [if_neg c, if_pos rfl, bnd_s, nm_d, li1, nI_add]
        exact ih fu (k + 1) _ (by omega) (by omega)
theorem put_L {N : Nat} (hN : N < 2 ^ 64) : ∀ (d fu k : Nat) (x : Int64), k + d = 8 → d < fu → uN x = N / 2 ^ (8 * k) → (∀ j, j < k → isCh (bN N j)) →
    ∃ q, den_X7_put_L8 fu (nI k) x 1 = some q ∧ ((∃ n y, n ≤ 8 ∧ den_X2_charactersIn_L5 fu (nI k) x = some (nI n) ∧ q = (nI n, y, 1) ∧ uN y = 0 ∧ ∀ j, j < n → isCh (bN N j)) ∨ (den_X2_charactersIn_L5 fu (nI k) x = some 0 ∧ (q.2.2 = 0 ∨ ¬ uN q.2.1 = 0))) := by
  intro d
  induction d with
  | zero =>
    intro fu k x hk hf hx hg
    cases fu with
    | zero => omega
    | succ fu =>
      have : k = 8 := by omega
      subst this
      have h0 : uN x = 0 := by rw [hx]; exact Nat.div_eq_of_lt hN
      refine ⟨(nI 8, x, 1), ?_, Or.inl ⟨8, x, by omega, ?_, rfl, h0, hg⟩⟩
      · rw [den_X7_put_L8, if_pos (show (8 : Int32) ≤ nI 8 by decide)]
      · rw [den_X2_charactersIn_L5, if_pos ((cmp0 x).mpr h0)]
  | succ d ih =>
    intro fu k x hk hf hx hg
    cases fu with
    | zero => omega
    | succ fu =>
      have hb : uN x % 256 = bN N k := by rw [hx]; rfl
      rw [den_X7_put_L8, den_X2_charactersIn_L5, if_neg (show ¬ (8 : Int32) ≤ nI k from nI_ge (b := 8) (by omega) (by omega)), if_neg (show ¬ (8 : Int32) ≤ nI k from nI_ge (b := 8) (by omega) (by omega)), low8, and8, m_within, hb]
      by_cases c0 : uN x = 0
      · rw [if_pos ((cmp8 x).mpr (by rw [c0])), if_pos ((cmp0 x).mpr c0)]
        exact ⟨_, rfl, Or.inl ⟨k, x, by omega, rfl, rfl, c0, hg⟩⟩
      · rw [if_neg (show ¬ lg_cmp x (0 : Int64) = 0 from fun q => c0 ((cmp0 x).mp q))]
        by_cases c1 : bN N k = 0
        · rw [if_pos ((cmp8 x).mpr (by rw [hb, c1])), if_pos (show nI (bN N k) < (33 : Int32) by rw [c1]; decide)]
          exact ⟨_, rfl, Or.inr ⟨rfl, Or.inr c0⟩⟩
        · have hlt : bN N k < 256 := Nat.mod_lt _ (by omega)
          rw [if_neg (show ¬ lg_cmp (x &&& (255 : Int64)) (0 : Int64) = 0 from fun q => c1 (by rw [← hb]; exact (cmp8 x).mp q)), if_neg (show ¬ (1 : Int32) = 0 by decide), bnd_s, nm_d, show nI k + (1 : Int32) = nI (k + 1) by rw [li1, nI_add]]
          by_cases c2 : bN N k < 33
          · have hl : nI (bN N k) < (33 : Int32) := nI_lt (b := 33) c2 (by omega)
            rw [if_pos hl, if_pos hl, if_pos rfl, bnd_s, nm_d]
            obtain ⟨q, e, e2⟩ := put_bad d fu (k + 1) ((x.toUInt64 >>> ((8 : Int32).toInt64.toUInt64 &&& Int64.toUInt64 63)).toInt64) (by omega) (by omega)
            exact ⟨q, e, Or.inr ⟨rfl, Or.inl e2⟩⟩
          · have hl : ¬ nI (bN N k) < (33 : Int32) := nI_nlt (a := bN N k) (b := 33) (by omega) (by omega)
            rw [if_neg hl, if_neg hl]
            by_cases c3 : bN N k ≤ 126
            · rw [if_pos (show nI (bN N k) ≤ (126 : Int32) from nI_le (b := 126) c3 (by omega)), if_neg (show ¬ (126 : Int32) < nI (bN N k) from nI_nlt (a := 126) (b := bN N k) (by omega) (by omega)), if_neg (show ¬ (1 : Int32) = 0 by decide), bnd_s, nm_d]
              exact ih fu (k + 1) _ (by omega) (by omega) (nx8 x hx) (fun j hj => by
                by_cases e : j = k
                · subst e; exact ⟨by omega, c3⟩
                · exact hg j (by omega))
            · rw [if_neg (show ¬ nI (bN N k) ≤ (126 : Int32) from nI_ge (a := 126) (b := bN N k) (by omega) (by omega)), if_pos (show (126 : Int32) < nI (bN N k) from nI_lt (a := 126) (by omega) (by omega)), if_pos rfl, bnd_s, nm_d]
              obtain ⟨q, e, e2⟩ := put_bad d fu (k + 1) ((x.toUInt64 >>> ((8 : Int32).toInt64.toUInt64 &&& Int64.toUInt64 63)).toInt64) (by omega) (by omega)
              exact ⟨q, e, Or.inr ⟨rfl, Or.inl e2⟩⟩
/-- the two pads hold the same characters -/
def PDc (pc mp : Nat → Int32) (len : Nat) : Prop := ∀ j, j < len → pc j = mp j ∧ ∃ n, isCh n ∧ mp j = nI n
def PD (pc mp : Nat → Int32) (pl ml : Int32) : Prop := ∃ len, pl = nI len ∧ ml = nI len ∧ len ≤ 80 ∧ PDc pc mp len
theorem app_L {x : Int64} {n len : Nat} (hn : n ≤ 8) (hl : len + n ≤ 80) (hg : ∀ j, j < n → isCh (bN (uN x) j)) : ∀ (m fu i : Nat) (pc mp : Nat → Int32), i + m = n → m < fu → PDc pc mp (len + i) →
    ∃ pc' mp', den_X2_append_L26 x (nI n) (nI len) fu (nI i) pc = some pc' ∧ den_X7_put_L105 x fu (nI m - 1) mp (nI (len + i)) = some (mp', nI (len + n)) ∧ PDc pc' mp' (len + n) := by
  intro m
  induction m with
  | zero =>
    intro fu i pc mp hi hf hP
    cases fu with
    | zero => omega
    | succ fu =>
      have : i = n := by omega
      subst this
      rw [den_X2_append_L26, den_X7_put_L105, if_pos (nI_le (Nat.le_refl _) (by omega)), if_pos (show nI 0 - 1 < 0 by decide)]
      exact ⟨_, _, rfl, rfl, hP⟩
  | succ m ih =>
    intro fu i pc mp hi hf hP
    cases fu with
    | zero => omega
    | succ fu =>
      have hg1 := hg m (by omega)
      have hlt : bN (uN x) m < 256 := Nat.mod_lt _ (by omega)
      have hs := uN_shr8k x (k := m) (by omega)
      rw [den_X2_append_L26, den_X7_put_L105, if_neg (nI_ge (by omega) (by omega)), nI_pred, if_neg (nI_pos (by omega)), nm_d, li1, nIs (by omega), nIs (by omega), show n - 1 - i = m by omega, li8, pk_mul, pk_mul, Nat.mul_comm m 8, low8, and8, hs, show uN x / 2 ^ (8 * m) % 256 = bN (uN x) m from rfl, charI hlt, nI_add, nI_add, nI_add, gdI (by omega) (by omega), gdI (by omega) (by omega), nI_clamp (by omega), show nI m + -nI 1 = nI m - 1 from (Int32.sub_eq_add_neg _ _).symm]
      have hP2 : PDc (upd pc (len + i) (nI (bN (uN x) m))) (upd mp (len + i) (nI (bN (uN x) m))) (len + (i + 1)) := fun j hj => by
        by_cases e : j = len + i
        · subst e; rw [pk_us, pk_us]; exact ⟨rfl, _, hg1, rfl⟩
        · rw [pk_un e, pk_un e]; exact hP j (by omega)
      obtain ⟨pc', mp', e1, e2, e3⟩ := ih fu (i + 1) _ _ (by omega) (by omega) hP2
      exact ⟨pc', mp', e1, e2, e3⟩
theorem k_put {pc mp : Nat → Int32} {pl ml : Int32} (P : PD pc mp pl ml) (x : Int64) : ∃ v pc' pl' mp' ml', den_X6_put pc pl x = some (v, pc', pl') ∧ den_X7_put mp ml x = some (v, mp', ml') ∧ PD pc' mp' pl' ml' := by
  obtain ⟨len, e1, e2, hl, hP⟩ := P
  subst e1; subst e2
  have P : PD pc mp (nI len) (nI len) := ⟨len, rfl, rfl, hl, hP⟩
  obtain ⟨q, eq, hq⟩ := put_L (N := uN x) (uN_lt x) 8 FU 0 x (by omega) (by rw [FU_eq]; omega) (by rw [Nat.mul_zero, Nat.pow_zero, Nat.div_one]) (fun j hj => by omega)
  rw [show nI 0 = (0 : Int32) from rfl] at eq hq
  unfold den_X6_put den_X7_put den_X2_charactersIn
  rw [eq, bnd_s]
  rcases hq with ⟨n, y, hn, h1, h2, h3, h4⟩ | ⟨h1, h2⟩
  · subst h2
    rw [h1, bnd_s, if_neg (show ¬ (1 : Int32) = 0 by decide), if_pos ((cmp0 y).mpr h3)]
    by_cases c : n = 0
    · subst c
      rw [if_neg (show ¬ (0 : Int32) < nI 0 by decide), if_pos (show nI 0 = (0 : Int32) from rfl)]
      exact ⟨_, _, _, _, _, rfl, rfl, P⟩
    · rw [if_pos (show (0 : Int32) < nI n from nI_lt (a := 0) (by omega) (by omega)), if_neg (show ¬ nI n = (0 : Int32) by rw [nI_0iff (by omega)]; exact c), nI_add]
      by_cases c2 : len + n ≤ 80
      · have hle : nI (len + n) ≤ (80 : Int32) := nI_le (b := 80) c2 (by omega)
        obtain ⟨pc', mp', a1, a2, a3⟩ := app_L hn c2 h4 n FU 0 pc mp (by omega) (by rw [FU_eq]; omega) hP
        unfold den_X2_append
        rw [show nI (len + 0) = nI len from rfl] at a2
        rw [show nI 0 = (0 : Int32) from rfl] at a1
        rw [nI_add, if_pos hle, if_pos hle, if_pos hle, if_neg (show ¬ nI len < 0 from nI_pos (by omega)), if_neg (show ¬ nI n < 0 from nI_pos (by omega)), a1, a2, bnd_s, bnd_s, bnd_s]
        exact ⟨_, _, _, _, _, rfl, rfl, len + n, rfl, rfl, c2, a3⟩
      · have hle : ¬ nI (len + n) ≤ (80 : Int32) := nI_ge (a := 80) (by omega) (by omega)
        rw [if_neg hle, if_neg hle]
        exact ⟨_, _, _, _, _, rfl, rfl, P⟩
  · rw [h1, bnd_s, if_neg (show ¬ (0 : Int32) < 0 by decide)]
    have hbad : (if q.1 = (0 : Int32) then some ((-2 : Int32), mp, nI len) else if q.2.2 = (0 : Int32) then some ((-2 : Int32), mp, nI len) else if lg_cmp q.2.1 (0 : Int64) = 0 then (if nI len + q.1 ≤ (80 : Int32) then bnd (den_X7_put_L105 x FU (q.1 - (1 : Int32)) mp (nI len)) (fun q6 => some (q6.2, q6.1, q6.2)) else some ((-4 : Int32), mp, nI len)) else some ((-2 : Int32), mp, nI len)) = some ((-2 : Int32), mp, nI len) := by
      by_cases c : q.1 = 0
      · rw [if_pos c]
      · rw [if_neg c]
        rcases h2 with h2 | h2
        · rw [if_pos h2]
        · by_cases c2 : q.2.2 = 0
          · rw [if_pos c2]
          · rw [if_neg c2, if_neg (fun w => h2 ((cmp0 _).mp w))]
    rw [hbad]
    exact ⟨_, _, _, _, _, rfl, rfl, P⟩
theorem k_wipe {pc mp : Nat → Int32} {pl ml : Int32} (P : PD pc mp pl ml) : ∃ v pl' ml', den_X6_wipe pl = some (v, pl') ∧ den_X7_wipe ml = some (v, ml') ∧ PD pc mp pl' ml' := by
  obtain ⟨len, e1, e2, hl, hP⟩ := P
  subst e1; subst e2
  exact ⟨_, _, _, rfl, rfl, 0, rfl, rfl, by omega, fun j hj => by omega⟩
