/-! p25: blocks in the order of their distance; silent and spoiled cells -/
theorem bit_ext {n x y : Nat} (hx : x < 2 ^ n) (hy : y < 2 ^ n) (h : ∀ j, j < n → (x / 2 ^ j % 2 = 1 ↔ y / 2 ^ j % 2 = 1)) : x = y := by
  apply Nat.eq_of_testBit_eq
  intro i
  by_cases c : i < n
  · rw [Nat.testBit_eq_decide_div_mod_eq, Nat.testBit_eq_decide_div_mod_eq]
    exact decide_eq_decide.mpr (h i c)
  · rw [Nat.testBit_lt_two_pow (Nat.lt_of_lt_of_le hx (Nat.pow_le_pow_right (by omega) (by omega))), Nat.testBit_lt_two_pow (Nat.lt_of_lt_of_le hy (Nat.pow_le_pow_right (by omega) (by omega)))]
theorem setN_or {D D' : Nat → Bool} {n i : Nat} (hi : i < n) (h : ∀ k, k < n → D' k = (D k || decide (k = i))) : setN D n ||| 2 ^ i = setN D' n := by
  apply Nat.eq_of_testBit_eq
  intro j
  rw [Nat.testBit_or, Nat.testBit_two_pow]
  by_cases c : j < n
  · have h1 := setN_bit (g := D) c
    have h2 := setN_bit (g := D') c
    rw [Nat.testBit_eq_decide_div_mod_eq, Nat.testBit_eq_decide_div_mod_eq]
    have e1 : decide (setN D n / 2 ^ j % 2 = 1) = D j := by
      cases hd : D j with
      | true => exact decide_eq_true (h1.mpr hd)
      | false => exact decide_eq_false (fun z => by rw [h1.mp z] at hd; cases hd)
    have e2 : decide (setN D' n / 2 ^ j % 2 = 1) = D' j := by
      cases hd : D' j with
      | true => exact decide_eq_true (h2.mpr hd)
      | false => exact decide_eq_false (fun z => by rw [h2.mp z] at hd; cases hd)
    rw [e1, e2, h j c]
    congr 1
    exact decide_eq_decide.mpr ⟨fun z => z.symm, fun z => z.symm⟩
  · rw [Nat.testBit_lt_two_pow (Nat.lt_of_lt_of_le (setN_lt D n) (Nat.pow_le_pow_right (by omega) (by omega))), Nat.testBit_lt_two_pow (Nat.lt_of_lt_of_le (setN_lt D' n) (Nat.pow_le_pow_right (by omega) (by omega))), Bool.false_or]
    exact decide_eq_false (by omega)
theorem a_nearN {T : TV} {st : Nat → Int32} (r : RTv T st) (R : RV) (B : Nat → Int32) {p x k : Nat} (hp : p < 1000) (hx : x < nB st) (hk : k < nB st) (he : cntN (nrB st (nI p) x) (nB st) = k) : wd_near T R B (nI p) (nI k) = some (nI x, R, B) := by
  have w := r.1
  have h16 := w.n16
  have h := c_near_L r (nI p) hx he x FU 0 (by omega) (by rw [FU_eq]; omega)
  rw [show nI 0 = (0 : Int32) from rfl] at h
  unfold wd_near den_X6_near
  rw [r.blI] at h ⊢
  rw [if_neg (show ¬ nI k < 0 from nI_pos (by omega)), if_pos (nI_lt hk (by omega)), if_neg (show ¬ nI p < 0 from nI_pos (by omega)), if_pos (show nI p < (1000 : Int32) from nI_lt (b := 1000) hp (by omega)), h, bnd_s]
theorem near_L {T : TV} {q bl st : Nat → Int32} {me : Nat → Int64} (r : RTv T st) (L : LB bl me st) (h2 : q 2 = st 2) (h3 : q 3 = nI (nB st)) {p : Nat} (hp : p < 1000) (R : RV) (B : Nat → Int32) : ∀ (d fu k : Nat), k + d = nB st → d < fu →
    den_L_same_L762 q bl T (nI p) fu (nI (setN (Dn st (nI p) k) (nB st))) (nI k) R B = some (R, B) := by
  have w := r.1
  have h5 := L.1
  intro d
  induction d with
  | zero =>
    intro fu k hk hf
    cases fu with
    | zero => omega
    | succ fu =>
      have : k = nB st := by omega
      subst this
      rw [den_L_same_L762, h3, if_pos (nI_le (Nat.le_refl _) (by omega))]
  | succ d ih =>
    intro fu k hk hf
    cases fu with
    | zero => omega
    | succ fu =>
      obtain ⟨y, e, hy⟩ := l_next_L w L h2 hp (Dn st (nI p) k) (nB st) FU (-1) (Nat.le_refl _) (by rw [FU_eq]; omega) (Or.inl ⟨rfl, fun j h1 h2 => by omega⟩)
      have hn : ∃ i, y = nI i ∧ isNx st (nI p) (Dn st (nI p) k) 0 i := by
        rcases hy with ⟨-, h⟩ | h
        · obtain ⟨x, hx, ex⟩ := rank_sur st (nI p) (nB st) k (by omega)
          have h1 := h x hx
          unfold Dn at h1
          have := of_decide_eq_true h1
          omega
        · exact h
      obtain ⟨i, ey, hi⟩ := hn
      subst ey
      have hr := nx_rank (by omega) hi
      have hin := hi.2.1
      have hs : setN (Dn st (nI p) k) (nB st) ||| 2 ^ i = setN (Dn st (nI p) (k + 1)) (nB st) := setN_or hin (fun z hz => Dn_s hin hr hz)
      have hp2 : 1 * 2 ^ i < 2 ^ 32 := by
        have : 2 ^ i ≤ 2 ^ 5 := Nat.pow_le_pow_right (by omega) (by omega)
        omega
      rw [den_L_same_L762, h3, if_neg (nI_ge (by omega) (by omega)), show nI (nB st) - (1 : Int32) = nI (nB st) - 1 from rfl, e, bnd_s, li1, shlJ (by omega) hp2, Nat.one_mul, fa_or, hs, nm_d, a_nearN r R B hp hin (by omega) hr, bnd_s, if_pos rfl, nI_add]
      exact ih fu (k + 1) (by omega) (by omega)
def siN (st : Nat → Int32) : Nat → Nat
  | 0 => 0
  | c + 1 => siN st c + (if cB st c % 128 < lB st then 1 else 0)
def baN (st : Nat → Int32) : Nat → Nat
  | 0 => 0
  | c + 1 => baN st c + cB st c / 128
theorem m_silent {st : Nat → Int32} (w : WF st) : den_X7_silentMany st = some (nI (siN st (FF st (nB st)))) := by
  have hF := FF_2464 w (Nat.le_refl _)
  have h : ∀ (d fu k : Nat), k + d = FF st (nB st) → d < fu → den_X7_silentMany_L4 st fu (nI (siN st k)) (nI k) = some (nI (siN st (FF st (nB st)))) := by
    intro d
    induction d with
    | zero =>
      intro fu k hk hf
      cases fu with
      | zero => omega
      | succ fu =>
        have : k = FF st (nB st) := by omega
        subst this
        rw [den_X7_silentMany_L4, m_all w, bnd_s, if_pos (nI_le (Nat.le_refl _) (by omega))]
    | succ d ih =>
      intro fu k hk hf
      cases fu with
      | zero => omega
      | succ fu =>
        have e : (if (if lB st ≤ cB st k % 128 then (1 : Int32) else 0) = 0 then some (1 : Int32) else some 0) = some (nI (if cB st k % 128 < lB st then 1 else 0)) := by
          by_cases c : lB st ≤ cB st k % 128
          · rw [if_pos c, if_neg (by decide), if_neg (by omega)]; rfl
          · rw [if_neg c, if_pos rfl, if_pos (by omega)]; rfl
        rw [den_X7_silentMany_L4, m_all w, bnd_s, if_neg (nI_ge (by omega) (by omega)), m_heard w (by omega), bnd_s, e, bnd_s, nI_add, li1, nI_add]
        exact ih fu (k + 1) (by omega) (by omega)
  have h0 := h (FF st (nB st)) FU 0 (by omega) (by rw [FU_eq]; omega)
  rw [show nI (siN st 0) = (0 : Int32) from rfl, show nI 0 = (0 : Int32) from rfl] at h0
  unfold den_X7_silentMany
  rw [h0, bnd_s]
theorem m_badN {st : Nat → Int32} (w : WF st) : den_X7_badMany st = some (nI (baN st (FF st (nB st)))) := by
  have hF := FF_2464 w (Nat.le_refl _)
  have h : ∀ (d fu k : Nat), k + d = FF st (nB st) → d < fu → den_X7_badMany_L4 st fu (nI (baN st k)) (nI k) = some (nI (baN st (FF st (nB st)))) := by
    intro d
    induction d with
    | zero =>
      intro fu k hk hf
      cases fu with
      | zero => omega
      | succ fu =>
        have : k = FF st (nB st) := by omega
        subst this
        rw [den_X7_badMany_L4, m_all w, bnd_s, if_pos (nI_le (Nat.le_refl _) (by omega))]
    | succ d ih =>
      intro fu k hk hf
      cases fu with
      | zero => omega
      | succ fu =>
        rw [den_X7_badMany_L4, m_all w, bnd_s, if_neg (nI_ge (by omega) (by omega)), m_bad w (by omega), bnd_s, nI_add, li1, nI_add]
        exact ih fu (k + 1) (by omega) (by omega)
  have h0 := h (FF st (nB st)) FU 0 (by omega) (by rw [FU_eq]; omega)
  rw [show nI (baN st 0) = (0 : Int32) from rfl, show nI 0 = (0 : Int32) from rfl] at h0
  unfold den_X7_badMany
  rw [h0, bnd_s]
theorem l_sil_L {q bl st : Nat → Int32} {me : Nat → Int64} (w : WF st) (L : LB bl me st) (h1 : q 1 = st 1) (h4 : q 4 = nI (FF st (nB st))) : ∀ (d fu k : Nat), k + d = FF st (nB st) → d < fu →
    den_L_same_L464 q me fu (nI (siN st k)) (nI (baN st k)) (nI k) = some (nI (siN st (FF st (nB st))), nI (baN st (FF st (nB st)))) := by
  have hF := FF_410 L
  have hl := w.l
  intro d
  induction d with
  | zero =>
    intro fu k hk hf
    cases fu with
    | zero => omega
    | succ fu =>
      have : k = FF st (nB st) := by omega
      subst this
      rw [den_L_same_L464, h4, if_pos (nI_le (Nat.le_refl _) (by omega))]
  | succ d ih =>
    intro fu k hk hf
    cases fu with
    | zero => omega
    | succ fu =>
      have hc := (w.c (c := k) (by omega)).2.1
      have e : (if nI (lB st) ≤ nI (cB st k % 128) then some (0 : Int32) else some 1) = some (nI (if cB st k % 128 < lB st then 1 else 0)) := by
        by_cases c : lB st ≤ cB st k % 128
        · rw [if_pos (nI_le c (by omega)), if_neg (by omega)]; rfl
        · rw [if_neg (nI_ge (by omega) (by omega)), if_pos (by omega)]; rfl
      rw [den_L_same_L464, h4, if_neg (nI_ge (by omega) (by omega)), l_mem L (by omega), bnd_s, h1, hl.1, li128, pk_rem (by omega) (by omega) (by omega), e, bnd_s, bnd_s, pk_div (by omega) (by omega) (by omega), nI_add, nI_add, li1, nI_add]
      exact ih fu (k + 1) (by omega) (by omega)
theorem l_low (x : Int32) {n : Nat} (h0 : 0 < n) (hn : n < 2 ^ 31) : ∃ v, v < n ∧ den_L_low x (nI n) = some (nI v) := by
  obtain ⟨j, hj, e⟩ := pk_andE x (m := (2147483647 : Int32)) 31 (by decide +kernel)
  refine ⟨j % n, Nat.mod_lt _ h0, ?_⟩
  unfold den_L_low
  rw [gd_t (decide_eq_true (show ¬ nI n = (0 : Int32) by rw [nI_0iff hn]; omega)), e, pk_rem hj h0 hn]
