/-! p25: a block as the law loads it -/
def wy (l : Nat) (st : Nat → Int32) (b : Nat) : Nat := if hw l st b 0 = 0 then 0 else if hw l st b 1 = 0 then 1 else 2
def gW (l : Nat) (st : Nat → Int32) (b k : Nat) : Int32 := if wy l st b = 1 then rV l st b 1 k else bV l st b k
def gN (l : Nat) (st : Nat → Int32) (b k : Nat) : Nat := (gW l st b k).toNatClampNeg
def gS (l : Nat) (st : Nat → Int32) (b : Nat) : Nat → Nat
  | 0 => 0
  | k + 1 => gS l st b k + gN l st b k
def gOk (l : Nat) (st : Nat → Int32) (b : Nat) : Nat → Bool
  | 0 => true
  | k + 1 => gOk l st b k && decide (gW l st b k ≠ -6)
theorem wy_3 (l : Nat) (st : Nat → Int32) (b : Nat) : wy l st b = 0 ∨ wy l st b = 1 ∨ wy l st b = 2 := by
  unfold wy
  by_cases c : hw l st b 0 = 0
  · rw [if_pos c]; exact Or.inl rfl
  · rw [if_neg c]
    by_cases c2 : hw l st b 1 = 0
    · rw [if_pos c2]; exact Or.inr (Or.inl rfl)
    · rw [if_neg c2]; exact Or.inr (Or.inr rfl)
theorem rV_or {st : Nat → Int32} (w : WF st) {l b : Nat} (hb : b < nB st) {t k : Nat} (ht : t < 2) (hk : k ≤ mB st b) : rV l st b t k = -6 ∨ ∃ v, v < 256 ∧ rV l st b t k = nI v := by
  unfold rV
  by_cases c : whole l st b t k = true
  · rw [if_pos c]; exact Or.inr ⟨_, vN_lt w hb ht hk 8 (Nat.le_refl _), rfl⟩
  · rw [if_neg c]; exact Or.inl rfl
theorem gW_or {st : Nat → Int32} (w : WF st) {l b : Nat} (hb : b < nB st) {k : Nat} (hk : k ≤ mB st b) : gW l st b k = -6 ∨ ∃ v, v < 256 ∧ gW l st b k = nI v := by
  unfold gW bV
  by_cases c : wy l st b = 1
  · rw [if_pos c]; exact rV_or w hb (by omega) hk
  · rw [if_neg c]
    by_cases c2 : whole l st b 0 k = true
    · rw [if_pos c2]; exact rV_or w hb (by omega) hk
    · rw [if_neg c2]; exact rV_or w hb (by omega) hk
theorem gS_le {st : Nat → Int32} (w : WF st) {l b : Nat} (hb : b < nB st) : ∀ k, k ≤ mB st b → gS l st b k ≤ 255 * k
  | 0, _ => Nat.le_refl _
  | k + 1, hk => by
    have h1 := gS_le w (l := l) hb k (by omega)
    have h2 : gN l st b k < 256 := by
      unfold gN
      rcases gW_or w (l := l) hb (k := k) (by omega) with e | ⟨v, hv, e⟩
      · rw [e]; decide
      · rw [e, nI_clamp (by omega)]; exact hv
    show gS l st b k + gN l st b k ≤ 255 * (k + 1)
    omega
/-- what the law's loop over the bytes ends with -/
def lF (l : Nat) (st : Nat → Int32) (b : Nat) (q4 : Int32) (z : Int64) (s : Nat) : Option Int64 := if q4 = 2 then (if rV l st b 0 (mB st b) = nI (s % 256) then some (sl z 2 ||| q4.toInt64) else if rV l st b 1 (mB st b) = nI (s % 256) then some (sl z 2 ||| q4.toInt64) else some (-6)) else some (sl z 2 ||| q4.toInt64)
theorem sl_2 (x : Int64) : x <<< ((2 : Int32).toInt64 &&& 63) = sl x 2 := sl_c x _ 2 (by decide +kernel)
theorem l_load_L {bl st : Nat → Int32} {me : Nat → Int64} (w : WF st) (L : LB bl me st) {b : Nat} (hb : b < nB st) {l : Nat} (hl : l ≤ 99) : ∀ (n fu : Nat) (y : Int64) (S : Nat), n ≤ mB st b → n < fu → S ≤ 255 * (mB st b - n) →
    den_L_load_L87 (nI b) (nI l) 48 64 bl me (nI (mB st b)) (nI (wy l st b)) fu y (nI S) (nI n - 1) = if gOk l st b n = true then lF l st b (nI (wy l st b)) (sl y (8 * n) ||| upL (gW l st b) n) (S + gS l st b n) else some (-6) := by
  have h3 := (L.2.1 b hb).1
  intro n
  induction n with
  | zero =>
    intro fu y S hn hf hS
    cases fu with
    | zero => omega
    | succ fu =>
      rw [den_L_load_L87, if_pos (show nI 0 - 1 < 0 by decide), nm_d, if_pos (show gOk l st b 0 = true from rfl), show gS l st b 0 = 0 from rfl, Nat.add_zero, show upL (gW l st b) 0 = 0 from rfl, Int64.or_zero, sl_0, sl_2]
      unfold lF
      by_cases c : nI (wy l st b) = (2 : Int32)
      · rw [if_pos c, if_pos c, show (0 : Int32) = nI 0 from rfl, l_byte w L hb (t := 0) (by omega) (Nat.le_refl _) hl, bnd_s, li255, and255]
        by_cases c1 : rV l st b 0 (mB st b) = nI (S % 256)
        · rw [if_pos c1, if_pos c1]
        · rw [if_neg c1, if_neg c1, show (1 : Int32) = nI 1 from rfl, l_byte w L hb (t := 1) (by omega) (Nat.le_refl _) hl, bnd_s]
      · rw [if_neg c, if_neg c]
  | succ n ih =>
    intro fu y S hn hf hS
    cases fu with
    | zero => omega
    | succ fu =>
      rw [den_L_load_L87, nI_pred, if_neg (nI_pos (by omega))]
      have e1 : (if nI (wy l st b) = (1 : Int32) then some (1 : Int32) else some (0 : Int32)) = some (nI (if wy l st b = 1 then 1 else 0)) := by
        rcases wy_3 l st b with e | e | e <;> rw [e] <;> rfl
      have ht : (if wy l st b = 1 then 1 else 0) < 2 := by split <;> omega
      rw [e1, bnd_s, l_byte w L hb ht (k := n) (by omega) hl, bnd_s]
      have e2 : (if (0 : Int32) ≤ rV l st b (if wy l st b = 1 then 1 else 0) n then some (rV l st b (if wy l st b = 1 then 1 else 0) n) else bnd (den_L_byteOf 48 64 bl me (nI b) (1 : Int32) (nI n) (nI l)) (fun q19 => some q19)) = some (gW l st b n) := by
        rw [show (1 : Int32) = nI 1 from rfl, l_byte w L hb (t := 1) (by omega) (k := n) (by omega) hl, bnd_s]
        unfold gW bV
        by_cases c : wy l st b = 1
        · rw [if_pos c, if_pos c]
          split <;> rfl
        · rw [if_neg c, if_neg c]
          have hr : rV l st b 0 n = if whole l st b 0 n = true then nI (vN st b 0 n 8) else -6 := rfl
          have hv := vN_lt w hb (t := 0) (by omega) (k := n) (by omega) 8 (Nat.le_refl _)
          by_cases c2 : whole l st b 0 n = true
          · rw [if_pos c2, hr, if_pos c2, if_pos (show (0 : Int32) ≤ nI (vN st b 0 n 8) from nI_le (a := 0) (by omega) (by omega))]
          · rw [if_neg c2, hr, if_neg c2, if_neg (show ¬ (0 : Int32) ≤ -6 by decide)]
      rw [e2, bnd_s]
      have hg : gOk l st b (n + 1) = (gOk l st b n && decide (gW l st b n ≠ -6)) := rfl
      rcases gW_or w (l := l) hb (k := n) (by omega) with e | ⟨v, hv, e⟩
      · rw [e, if_neg (show ¬ (0 : Int32) ≤ -6 by decide), hg, e, decide_eq_false (fun z => z rfl), Bool.and_false, if_neg Bool.false_ne_true]
      · have hgn : gN l st b n = v := by unfold gN; rw [e, nI_clamp (by omega)]
        have hgs : gS l st b (n + 1) = gS l st b n + v := by
          show gS l st b n + gN l st b n = _
          rw [hgn]
        rw [hg, decide_eq_true (show gW l st b n ≠ -6 from fun z => nI_ne6 (show v < 2 ^ 31 by omega) (e ▸ z)), Bool.and_true, hgs, e, if_pos (show (0 : Int32) ≤ nI v from nI_le (a := 0) (by omega) (by omega)), nm_d, sl_8, nI_add, show nI n + (-1 : Int32) = nI n - 1 from (Int32.sub_eq_add_neg _ _).symm, ih fu _ (S + v) (by omega) (by omega) (by omega), sl_or, sl_sl, show S + v + gS l st b n = S + (gS l st b n + v) by omega]
        have hu : upL (gW l st b) (n + 1) = upL (gW l st b) n ||| sl (nI v).toInt64 (8 * n) := by
          show upL (gW l st b) n ||| sl (gW l st b n).toInt64 (8 * n) = _
          rw [e]
        rw [hu, show 8 + 8 * n = 8 * (n + 1) by omega, Int64.or_assoc, Int64.or_comm (sl (nI v).toInt64 (8 * n))]
theorem gOk_B {st : Nat → Int32} (w : WF st) {l b : Nat} (hb : b < nB st) (h : wy l st b ≠ 1) : ∀ n, n ≤ mB st b → gOk l st b n = allB l st b n ∧ (gOk l st b n = true → gS l st b n = sB l st b n)
  | 0, _ => ⟨rfl, fun _ => rfl⟩
  | n + 1, hn => by
    obtain ⟨h1, h2⟩ := gOk_B w hb h n (by omega)
    have v0 := vN_lt w hb (t := 0) (by omega) (k := n) (by omega) 8 (Nat.le_refl _)
    have v1 := vN_lt w hb (t := 1) (by omega) (k := n) (by omega) 8 (Nat.le_refl _)
    have e : gW l st b n = if whole l st b 0 n = true then nI (vN st b 0 n 8) else if whole l st b 1 n = true then nI (vN st b 1 n 8) else -6 := by
      unfold gW bV rV
      rw [if_neg h]
      by_cases c : whole l st b 0 n = true
      · rw [if_pos c, if_pos c, if_pos c]
      · rw [if_neg c, if_neg c]
    have hd : decide (gW l st b n ≠ -6) = (whole l st b 0 n || whole l st b 1 n) := by
      rw [e]
      cases c0 : whole l st b 0 n with
      | true => rw [if_pos rfl, Bool.true_or]; exact decide_eq_true (nI_ne6 (by omega))
      | false =>
        rw [if_neg Bool.false_ne_true, Bool.false_or]
        cases c1 : whole l st b 1 n with
        | true => rw [if_pos rfl]; exact decide_eq_true (nI_ne6 (by omega))
        | false => rw [if_neg Bool.false_ne_true]; exact decide_eq_false (fun z => z rfl)
    have g1 : gOk l st b (n + 1) = (gOk l st b n && decide (gW l st b n ≠ -6)) := rfl
    have g2 : allB l st b (n + 1) = (allB l st b n && (whole l st b 0 n || whole l st b 1 n)) := rfl
    refine ⟨by rw [g1, g2, hd, h1], fun hk => ?_⟩
    rw [g1, hd, Bool.and_eq_true] at hk
    show gS l st b n + gN l st b n = sB l st b n + vB l st b n
    rw [h2 hk.1]
    unfold gN vB
    rw [e]
    cases c0 : whole l st b 0 n with
    | true => rw [if_pos rfl, if_pos rfl, nI_clamp (by omega)]
    | false =>
      have c1 : whole l st b 1 n = true := by
        have := hk.2
        rw [c0, Bool.false_or] at this
        exact this
      rw [if_neg Bool.false_ne_true, if_neg Bool.false_ne_true, if_pos c1, nI_clamp (by omega)]
theorem gOk_w {l : Nat} {st : Nat → Int32} {b : Nat} : ∀ n, (∀ k, k < n → gW l st b k ≠ -6) → gOk l st b n = true
  | 0, _ => rfl
  | n + 1, h => by
    show (gOk l st b n && decide (gW l st b n ≠ -6)) = true
    rw [gOk_w n (fun k hk => h k (by omega)), decide_eq_true (h n (by omega))]
    rfl
theorem gOk_at {l : Nat} {st : Nat → Int32} {b : Nat} : ∀ {n : Nat}, gOk l st b n = true → ∀ {k : Nat}, k < n → gW l st b k ≠ -6
  | 0, _, k, hk => by omega
  | n + 1, h, k, hk => by
    have h2 : (gOk l st b n && decide (gW l st b n ≠ -6)) = true := h
    rw [Bool.and_eq_true] at h2
    by_cases e : k = n
    · subst e; exact of_decide_eq_true h2.2
    · exact gOk_at h2.1 (by omega)
theorem l_load {bl st : Nat → Int32} {me : Nat → Int64} (w : WF st) (L : LB bl me st) {b : Nat} (hb : b < nB st) {l : Nat} (hl : l ≤ 99) : den_L_load 48 64 bl me (nI b) (nI l) = some (if ld l st b = -6 then -6 else sl (upL (gW l st b) (mB st b)) 2 ||| (nI (wy l st b)).toInt64) ∧ (ld l st b ≠ -6 → ld l st b = nI (wy l st b) ∧ ∀ k, k < mB st b → gW l st b k ≠ -6) := by
  have h5 := L.1
  have h7 := w.m7 hb
  obtain ⟨h3, -, -, hm, -, -⟩ := L.2.1 b hb
  have hL := l_load_L w L hb hl (mB st b) FU 0 0 (Nat.le_refl _) (by rw [FU_eq]; omega) (by omega)
  rw [sl_z, Int64.zero_or, Nat.zero_add, show nI 0 = (0 : Int32) from rfl] at hL
  have ew : (if nI (hw l st b 0) = (0 : Int32) then some (0 : Int32) else bnd (den_L_how 48 64 bl me (nI b) (1 : Int32) (nI l)) (fun q28 => if q28 = (0 : Int32) then some (1 : Int32) else some (2 : Int32))) = some (nI (wy l st b)) := by
    rw [show (1 : Int32) = nI 1 from rfl, l_how w L hb (t := 1) (by omega) hl, bnd_s]
    unfold wy
    by_cases c : hw l st b 0 = 0
    · rw [if_pos c, if_pos (show nI (hw l st b 0) = (0 : Int32) from hw_0.mpr c)]; rfl
    · rw [if_neg c, if_neg (show ¬ nI (hw l st b 0) = (0 : Int32) from fun q => c (hw_0.mp q))]
      by_cases c2 : hw l st b 1 = 0
      · rw [if_pos c2, if_pos (show nI (hw l st b 1) = (0 : Int32) from hw_0.mpr c2)]
      · rw [if_neg c2, if_neg (show ¬ nI (hw l st b 1) = (0 : Int32) from fun q => c2 (hw_0.mp q))]; rfl
  unfold den_L_load
  rw [show (8 : Int32) * nI b = nI (8 * b) by rw [li8, pk_mul], li2, nI_add, gdI (by omega) (by omega), nI_clamp (by omega), hm, nm_d, show (0 : Int32) = nI 0 from rfl, l_how w L hb (t := 0) (by omega) hl, bnd_s, show nI 0 = (0 : Int32) from rfl, ← li2, ew, bnd_s, nm_d, hL, show (0 : Int32) = nI 0 from rfl, l_lost w L hb (t := 0) (by omega) hl, show (1 : Int32) = nI 1 from rfl, l_lost w L hb (t := 1) (by omega) hl, bnd_s, bnd_s]
  by_cases c0 : hw l st b 0 = 0
  · have hwy : wy l st b = 0 := by unfold wy; rw [if_pos c0]
    have hld : ld l st b = 0 := by unfold ld; rw [if_pos c0]
    have hg : ∀ k, k < mB st b → gW l st b k ≠ -6 := fun k hk => by
      have hv := vN_lt w hb (t := 0) (by omega) (k := k) (by omega) 8 (Nat.le_refl _)
      unfold gW bV rV
      rw [hwy, if_neg (by omega), if_pos (hw0_w c0 hk), if_pos (hw0_w c0 hk)]
      exact nI_ne6 (by omega)
    rw [hwy, if_neg (show ¬ nI 0 = (2 : Int32) by decide), gOk_w _ hg, if_pos rfl, hld, if_neg (show ¬ (0 : Int32) = -6 by decide)]
    unfold lF
    rw [if_neg (show ¬ nI 0 = (2 : Int32) by decide)]
    exact ⟨rfl, fun _ => ⟨rfl, hg⟩⟩
  · by_cases c1 : hw l st b 1 = 0
    · have hwy : wy l st b = 1 := by unfold wy; rw [if_neg c0, if_pos c1]
      have hld : ld l st b = 1 := by unfold ld; rw [if_neg c0, if_pos c1]
      have hg : ∀ k, k < mB st b → gW l st b k ≠ -6 := fun k hk => by
        have hv := vN_lt w hb (t := 1) (by omega) (k := k) (by omega) 8 (Nat.le_refl _)
        unfold gW rV
        rw [hwy, if_pos rfl, if_pos (hw0_w c1 hk)]
        exact nI_ne6 (by omega)
      rw [hwy, if_neg (show ¬ nI 1 = (2 : Int32) by decide), gOk_w _ hg, if_pos rfl, hld, if_neg (show ¬ (1 : Int32) = -6 by decide)]
      unfold lF
      rw [if_neg (show ¬ nI 1 = (2 : Int32) by decide)]
      exact ⟨rfl, fun _ => ⟨rfl, hg⟩⟩
    · have hwy : wy l st b = 2 := by unfold wy; rw [if_neg c0, if_neg c1]
      obtain ⟨g1, g2⟩ := gOk_B w (l := l) hb (by rw [hwy]; omega) (mB st b) (Nat.le_refl _)
      have hld : ld l st b = if okB l st b = true then 2 else -6 := by unfold ld; rw [if_neg c0, if_neg c1]
      rw [hwy, if_pos (show nI 2 = (2 : Int32) from rfl), hld, show nI 0 = (0 : Int32) from rfl, show nI 1 = (1 : Int32) from rfl]
      unfold okB lF
      rw [if_pos (show nI 2 = (2 : Int32) from rfl)]
      cases k0 : lost l st b 0 with
      | true =>
        rw [if_pos rfl, if_neg (show ¬ (1 : Int32) = 0 by decide)]
        refine ⟨rfl, fun z => absurd rfl z⟩
      | false =>
        rw [if_neg Bool.false_ne_true, if_pos rfl]
        cases k1 : lost l st b 1 with
        | true =>
          rw [if_pos rfl, if_neg (show ¬ (1 : Int32) = 0 by decide)]
          refine ⟨rfl, fun z => absurd rfl z⟩
        | false =>
          rw [if_neg Bool.false_ne_true, if_pos rfl, g1]
          cases ka : allB l st b (mB st b) with
          | false =>
            rw [if_neg Bool.false_ne_true]
            refine ⟨rfl, fun z => absurd rfl z⟩
          | true =>
            have hs := g2 (by rw [g1, ka])
            rw [if_pos rfl, hs]
            have hk : ∀ k, k < mB st b → gW l st b k ≠ -6 := fun k hk z => by
              have := gOk_at (n := mB st b) (by rw [g1, ka]) hk
              exact this z
            by_cases e0 : rV l st b 0 (mB st b) = nI (sB l st b (mB st b) % 256)
            · rw [if_pos e0, decide_eq_true e0]
              exact ⟨rfl, fun _ => ⟨rfl, hk⟩⟩
            · rw [if_neg e0, decide_eq_false e0]
              by_cases e1 : rV l st b 1 (mB st b) = nI (sB l st b (mB st b) % 256)
              · rw [if_pos e1, decide_eq_true e1]
                exact ⟨rfl, fun _ => ⟨rfl, hk⟩⟩
              · rw [if_neg e1, decide_eq_false e1]
                exact ⟨rfl, fun z => absurd rfl z⟩
