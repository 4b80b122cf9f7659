/-! weak -/
theorem m_turn {se na un ma fi vo ba wr st : Nat → Int32} {bl : Int32} (r : RT se bl na un ma fi vo ba wr st) {c : Nat} (hc : c < FF st (nB st)) : ∃ x q, x < 256 ∧ x % 128 = cB st c % 128 ∧ x / 128 = 1 - cB st c / 128 ∧ den_X7_turns st (nI c) = some (q, upd st (164 + c) (nI x)) ∧ RT se bl na un ma fi vo (upd ba c (nI (x / 128))) wr (upd st (164 + c) (nI x)) := by
  have w := r.1
  have hF := FF_2464 w (Nat.le_refl _)
  have hcc := r.2.2.2.2.2.1 c hc
  have hw := w.c hc
  have hx : ∃ x, x < 256 ∧ x % 128 = cB st c % 128 ∧ x / 128 = 1 - cB st c / 128 ∧ st (164 + c) + (if nI (cB st c / 128) = (1 : Int32) then (-128 : Int32) else 128) = nI x := by
    have h2 : cB st c / 128 = 0 ∨ cB st c / 128 = 1 := by omega
    rcases h2 with e | e
    · refine ⟨cB st c + 128, by omega, by omega, by omega, ?_⟩
      rw [e, if_neg (show ¬ nI 0 = (1 : Int32) by decide), hw.1, li128, nI_add]
    · refine ⟨cB st c - 128, by omega, by omega, by omega, ?_⟩
      rw [e, if_pos (show nI 1 = (1 : Int32) from rfl), hw.1, show (-128 : Int32) = - nI 128 from rfl, ← Int32.sub_eq_add_neg, nIs (by omega)]
  obtain ⟨x, hx1, hx2, hx3, hx4⟩ := hx
  have r2 := RT_cell1 r (c := c) (x := x) hx1 (by omega)
  rw [hx2, upd_self hcc.1] at r2
  have w2 := r2.1
  refine ⟨x, nI (1 - cB st c / 128), hx1, hx2, hx3, ?_, r2⟩
  unfold den_X7_turns
  rw [m_bad w hc, bnd_s, li164, nI_add, gdI (by omega) (by omega)]
  rw [show (if nI (cB st c / 128) = (1 : Int32) then some (-128 : Int32) else some 128) = some (if nI (cB st c / 128) = (1 : Int32) then (-128 : Int32) else 128) by split <;> rfl, bnd_s, gdI (by omega) (by omega), nI_clamp (by omega), hx4, m_bad w2 (by rw [up_FF w]; exact hc), bnd_s]
  have e5 : cB (upd st (164 + c) (nI x)) c / 128 = 1 - cB st c / 128 := by
    have : cB (upd st (164 + c) (nI x)) c = x := by unfold cB; rw [pk_us, nI_clamp (by omega)]
    rw [this, hx3]
  rw [e5]
/-- one cell's bit turned -/
def TN (st s2 : Nat → Int32) (c : Nat) : Prop := (∀ j, j < 164 → s2 j = st j) ∧ (∀ k, cB s2 k % 128 = cB st k % 128) ∧ (∀ k, k ≠ c → cB s2 k = cB st k) ∧ cB s2 c / 128 = 1 - cB st c / 128
theorem TN_of {st : Nat → Int32} {c x : Nat} (hx : x < 256) (h1 : x % 128 = cB st c % 128) (h2 : x / 128 = 1 - cB st c / 128) : TN st (upd st (164 + c) (nI x)) c := by
  have h0 : cB (upd st (164 + c) (nI x)) c = x := by unfold cB; rw [pk_us, nI_clamp (by omega)]
  have h3 : ∀ k, k ≠ c → cB (upd st (164 + c) (nI x)) k = cB st k := fun k hk => cB_of (pk_un (by omega))
  refine ⟨fun j hj => pk_un (by omega), fun k => ?_, h3, by rw [h0, h2]⟩
  by_cases e : k = c
  · subst e; rw [h0, h1]
  · rw [h3 k e]
theorem TN.N {st s2 : Nat → Int32} {c : Nat} (T : TN st s2 c) : agN 16 st s2 := fun j _ h2 => T.1 j (by omega)
theorem TN.z_lc {st s2 : Nat → Int32} {c : Nat} (T : TN st s2 c) (l x : Nat) : ∀ n, lc l s2 x n = lc l st x n
  | 0 => rfl
  | n + 1 => by
    show lc l s2 x n + (if l ≤ cB s2 (x + n) % 128 then 1 else 0) = lc l st x n + (if l ≤ cB st (x + n) % 128 then 1 else 0)
    rw [T.z_lc l x n, T.2.1]
theorem TN.z_hN {st s2 : Nat → Int32} {c : Nat} (T : TN st s2 c) (l x : Nat) : ∀ n, hN l s2 x n = hN l st x n
  | 0 => rfl
  | n + 1 => by
    show (hN l s2 x n && decide (l ≤ cB s2 (x + n) % 128)) = (hN l st x n && decide (l ≤ cB st (x + n) % 128))
    rw [T.z_hN l x n, T.2.1]
theorem TN.z_tb {st s2 : Nat → Int32} {c : Nat} (T : TN st s2 c) (w : WF st) {b t p : Nat} (hb : b < nB st) (h4 : 4 ≤ p) (hp : p < tl st b) (hne : bs st b t + p ≠ c) : tb s2 b t p = tb st b t p := by
  have h16 := w.n16
  have h7 := w.m7 hb
  unfold tl at hp
  unfold tb
  rw [ag_bs T.N (by omega), ag_wb T.N (by omega) h7 (by omega), T.2.2.1 _ hne]
theorem TN.z_tb1 {st s2 : Nat → Int32} {c : Nat} (T : TN st s2 c) (w : WF st) {b t p : Nat} (hb : b < nB st) (ht : t < 2) (h4 : 4 ≤ p) (hp : p < tl st b) (he : bs st b t + p = c) : tb s2 b t p = 1 - tb st b t p := by
  have h16 := w.n16
  have h7 := w.m7 hb
  have hc := (w.c (cell_in hb ht hp)).2.1
  unfold tl at hp
  unfold tb
  rw [ag_bs T.N (by omega), ag_wb T.N (by omega) h7 (by omega), he, T.2.2.2]
  rw [he] at hc
  have h1 := wb_lt st b (p - 4)
  have h2 : wb st b (p - 4) = 0 ∨ wb st b (p - 4) = 1 := by omega
  have h3 : cB st c / 128 = 0 ∨ cB st c / 128 = 1 := by omega
  rcases h2 with e | e <;> rcases h3 with e2 | e2 <;> rw [e, e2] <;> rfl
theorem whole_par {st : Nat → Int32} (h : WF st) {b : Nat} (hb : b < nB st) {t k : Nat} (ht : t < 2) (hk : k ≤ mB st b) (l : Nat) : whole l st b t k = (hN l st (bs st b t + (4 + 9 * k)) 9 && decide (oN st b t k 9 % 2 = 0)) := by
  have h2 := tb_lt h hb ht (p := 4 + 9 * k + 8) (by unfold tl; omega)
  unfold whole
  rw [sb_oN h hb ht hk 8 (Nat.le_refl _)]
  have e : oN st b t k 9 = oN st b t k 8 + tb st b t (4 + 9 * k + 8) := rfl
  rw [e]
  congr 1
  apply decide_eq_decide.mpr
  omega
theorem TN.z_oN {st s2 : Nat → Int32} {c : Nat} (T : TN st s2 c) (w : WF st) {b t k : Nat} (hb : b < nB st) (hk : k ≤ mB st b) : ∀ n, n ≤ 9 → (∀ i, i < n → bs st b t + (4 + 9 * k + i) ≠ c) → oN s2 b t k n = oN st b t k n
  | 0, _, _ => rfl
  | n + 1, hn, h => by
    show oN s2 b t k n + tb s2 b t (4 + 9 * k + n) = oN st b t k n + tb st b t (4 + 9 * k + n)
    rw [T.z_oN w hb hk n (by omega) (fun i hi => h i (by omega)), T.z_tb w hb (by omega) (by unfold tl; omega) (h n (by omega))]
theorem TN.z_oN1 {st s2 : Nat → Int32} {c : Nat} (T : TN st s2 c) (w : WF st) {b t k j : Nat} (hb : b < nB st) (ht : t < 2) (hk : k ≤ mB st b) (hj : bs st b t + (4 + 9 * k + j) = c) : ∀ n, n ≤ 9 → j < n → (oN s2 b t k n + oN st b t k n) % 2 = 1
  | 0, _, h => by omega
  | n + 1, hn, h => by
    show (oN s2 b t k n + tb s2 b t (4 + 9 * k + n) + (oN st b t k n + tb st b t (4 + 9 * k + n))) % 2 = 1
    have h2 := tb_lt w hb ht (p := 4 + 9 * k + n) (by unfold tl; omega)
    by_cases e : j = n
    · subst e
      rw [T.z_oN w hb hk j (by omega) (fun i hi => by omega), T.z_tb1 w hb ht (by omega) (by unfold tl; omega) hj]
      omega
    · have ih := T.z_oN1 w hb ht hk hj n (by omega) (by omega)
      rw [T.z_tb w hb (by omega) (by unfold tl; omega) (by omega)]
      omega
theorem TN.z_vN {st s2 : Nat → Int32} {c : Nat} (T : TN st s2 c) (w : WF st) {b t k : Nat} (hb : b < nB st) (hk : k ≤ mB st b) (h : ∀ i, i < 9 → bs st b t + (4 + 9 * k + i) ≠ c) : ∀ n, n ≤ 9 → vN s2 b t k n = vN st b t k n
  | 0, _ => rfl
  | n + 1, hn => by
    show vN s2 b t k n + 2 ^ n * tb s2 b t (4 + 9 * k + n) = vN st b t k n + 2 ^ n * tb st b t (4 + 9 * k + n)
    rw [T.z_vN w hb hk h n (by omega), T.z_tb w hb (by omega) (by unfold tl; omega) (h n (by omega))]
theorem TN.z_whole {st s2 : Nat → Int32} {c : Nat} (T : TN st s2 c) (w : WF st) {b t k : Nat} (hb : b < nB st) (hk : k ≤ mB st b) (h : ∀ i, i < 9 → bs st b t + (4 + 9 * k + i) ≠ c) (l : Nat) : whole l s2 b t k = whole l st b t k := by
  have h16 := w.n16
  have e : whole l s2 b t k = (hN l s2 (bs s2 b t + (4 + 9 * k)) 9 && decide (tb s2 b t (4 + 9 * k + 8) = sb (vN s2 b t k 8) 8 % 2)) := rfl
  have e2 : whole l st b t k = (hN l st (bs st b t + (4 + 9 * k)) 9 && decide (tb st b t (4 + 9 * k + 8) = sb (vN st b t k 8) 8 % 2)) := rfl
  rw [e, e2, ag_bs T.N (by omega), T.z_hN, T.z_vN w hb hk h 8 (by omega), T.z_tb w hb (by omega) (by unfold tl; omega) (h 8 (by omega))]
theorem TN.z_lost {st s2 : Nat → Int32} {c : Nat} (T : TN st s2 c) (w : WF st) {b : Nat} (hb : b < nB st) (t l : Nat) : lost l s2 b t = lost l st b t := by
  have h16 := w.n16
  have e : lost l s2 b t = decide (lc l s2 (bs s2 b t) 4 < 2) := rfl
  rw [e, ag_bs T.N (by omega), T.z_lc]; rfl
theorem weak_lead {st s2 : Nat → Int32} {c : Nat} (T : TN st s2 c) (w : WF st) {b t p l : Nat} (hb : b < nB st) (hp : p < 4) (he : bs st b t + p = c) : hw l s2 b t = hw l st b t := by
  have h16 := w.n16
  have hW : ∀ k, k ≤ mB st b → whole l s2 b t k = whole l st b t k := fun k hk => T.z_whole w hb hk (fun i hi => by omega) l
  have hV : ∀ k, k ≤ mB st b → vN s2 b t k 8 = vN st b t k 8 := fun k hk => T.z_vN w hb hk (fun i hi => by omega) 8 (by omega)
  have hA : ∀ n, n ≤ mB st b → allW l s2 b t n = allW l st b t n := by
    intro n
    induction n with
    | zero => intro _; rfl
    | succ n ih =>
      intro hn
      show (allW l s2 b t n && whole l s2 b t n) = (allW l st b t n && whole l st b t n)
      rw [ih (by omega), hW n (by omega)]
  have hS : ∀ n, n ≤ mB st b → sW s2 b t n = sW st b t n := by
    intro n
    induction n with
    | zero => intro _; rfl
    | succ n ih =>
      intro hn
      show sW s2 b t n + vN s2 b t n 8 = sW st b t n + vN st b t n 8
      rw [ih (by omega), hV n (by omega)]
  unfold hw rV
  rw [T.z_lost w hb, ag_mB T.N (by omega), hA _ (Nat.le_refl _), hS _ (Nat.le_refl _), hW _ (Nat.le_refl _), hV _ (Nat.le_refl _)]
theorem allW_k {l : Nat} {st : Nat → Int32} {b t : Nat} : ∀ {n : Nat}, (∀ k, k < n → whole l st b t k = true) → allW l st b t n = true
  | 0, _ => rfl
  | n + 1, h => by
    show (allW l st b t n && whole l st b t n) = true
    rw [allW_k (fun k hk => h k (by omega)), h n (by omega)]; rfl
theorem weak_bit {st s2 : Nat → Int32} {c : Nat} (T : TN st s2 c) (w : WF st) (w2 : WF s2) {b t p l : Nat} (hb : b < nB st) (ht : t < 2) (h4 : 4 ≤ p) (hp : p < tl st b) (he : bs st b t + p = c) (h0 : hw l st b t = 0) : hw l s2 b t ≠ 0 := by
  have h16 := w.n16
  have hnB : nB s2 = nB st := nB_of (T.1 3 (by omega))
  have hm2 := ag_mB (b := b) T.N (by omega)
  have hk : (p - 4) / 9 ≤ mB st b := by unfold tl at hp; omega
  have hj : bs st b t + (4 + 9 * ((p - 4) / 9) + (p - 4) % 9) = c := by rw [← he]; congr 1; omega
  have hpar := T.z_oN1 w hb ht hk hj 9 (by omega) (by omega)
  have hw1 : whole l st b t ((p - 4) / 9) = true := by
    unfold hw at h0
    by_cases c1 : lost l st b t = true
    · rw [if_pos c1] at h0; omega
    · rw [if_neg c1] at h0
      by_cases c2 : allW l st b t (mB st b) = true
      · rw [if_pos c2] at h0
        by_cases e : (p - 4) / 9 = mB st b
        · rw [e]
          by_cases c3 : rV l st b t (mB st b) = nI (sW st b t (mB st b) % 256)
          · by_cases c4 : whole l st b t (mB st b) = true
            · exact c4
            · exact absurd (((rV_6 w hb ht (Nat.le_refl _)).mpr c4).symm.trans c3).symm (nI_ne6 (by omega))
          · rw [if_neg c3] at h0; omega
        · exact allW_w c2 (by omega)
      · rw [if_neg c2] at h0; omega
  have hw2 : ¬ whole l s2 b t ((p - 4) / 9) = true := by
    intro q
    rw [whole_par w hb ht hk, Bool.and_eq_true, decide_eq_true_eq] at hw1
    rw [whole_par w2 (by rw [hnB]; exact hb) ht (by rw [hm2]; exact hk), Bool.and_eq_true, decide_eq_true_eq] at q
    omega
  intro q
  unfold hw at q
  by_cases c1 : lost l s2 b t = true
  · rw [if_pos c1] at q; omega
  · rw [if_neg c1] at q
    by_cases c2 : allW l s2 b t (mB s2 b) = true
    · rw [if_pos c2] at q
      by_cases e : (p - 4) / 9 = mB st b
      · rw [e, ← hm2] at hw2
        rw [if_neg (fun c3 => absurd (((rV_6 w2 (by rw [hnB]; exact hb) ht (Nat.le_refl _)).mpr hw2).symm.trans c3).symm (nI_ne6 (by omega)))] at q
        omega
      · exact hw2 (allW_w c2 (by rw [hm2]; omega))
    · rw [if_neg c2] at q; omega
theorem m_weak_L {se na un ma fi vo ba wr st : Nat → Int32} {bl : Int32} (r : RT se bl na un ma fi vo ba wr st) {b t : Nat} (hb : b < nB st) (ht : t < 2) (h0 : hw (lB st) st b t = 0) : ∀ (d fu n : Nat), n + d = tl st b → d < fu →
    den_X7_weak_L54 (nI b) (nI t) (nI (FF st b)) (nI (tl st b)) fu (nI (n - 4)) (nI n) st = some (nI (tl st b - 4), st) := by
  have w := r.1
  have h16 := w.n16
  have htl := tl_le w hb
  have hF := FF_2464 w (Nat.le_refl _)
  intro d
  induction d with
  | zero =>
    intro fu n hn hf
    cases fu with
    | zero => omega
    | succ fu =>
      have : n = tl st b := by omega
      subst this
      rw [den_X7_weak_L54, m_tl w hb, bnd_s, if_pos (nI_le (Nat.le_refl _) (by omega))]
  | succ d ih =>
    intro fu n hn hf
    cases fu with
    | zero => omega
    | succ fu =>
      have hI := ih fu (n + 1) (by omega) (by omega)
      have hc := cell_in hb ht (p := n) (by omega)
      have ea : nI (FF st b) + nI t * nI (tl st b) + nI n = nI (bs st b t + n) := by rw [pk_mul, nI_add, nI_add]; rfl
      obtain ⟨x, q, hx1, hx2, hx3, e1, r2⟩ := m_turn r hc
      have T := TN_of hx1 hx2 hx3
      have w2 := r2.1
      have hFF2 := up_FF w (c := bs st b t + n) (v := nI x)
      have hnB2 : nB (upd st (164 + (bs st b t + n)) (nI x)) = nB st := up_nB
      obtain ⟨x2, q2, hy1, hy2, hy3, e2, -⟩ := m_turn r2 (c := bs st b t + n) (by rw [hFF2]; exact hc)
      have hcx : cB (upd st (164 + (bs st b t + n)) (nI x)) (bs st b t + n) = x := by unfold cB; rw [pk_us, nI_clamp (by omega)]
      rw [hcx] at hy2 hy3
      have hcc := w.c hc
      have hx2' : x2 = cB st (bs st b t + n) := by omega
      rw [upd_upd, hx2', ← hcc.1, upd_self rfl] at e2
      have hl2 : lB (upd st (164 + (bs st b t + n)) (nI x)) = lB st := by unfold lB; rw [pk_un (by omega)]
      have eh := m_how w2 (b := b) (t := t) (by rw [hnB2]; exact hb) ht
      rw [hl2] at eh
      rw [den_X7_weak_L54, m_tl w hb, bnd_s, if_neg (nI_ge (by omega) (by omega)), ea, e1, bnd_s, eh, bnd_s]
      have eq : (if nI (hw (lB st) (upd st (164 + (bs st b t + n)) (nI x)) b t) = (0 : Int32) then some (0 : Int32) else some 1) = some (nI ((n + 1 - 4) - (n - 4))) := by
        by_cases c : n < 4
        · rw [weak_lead T w hb c rfl, h0, if_pos (show nI 0 = (0 : Int32) from rfl), show n + 1 - 4 - (n - 4) = 0 by omega]; rfl
        · have hne := weak_bit T w w2 (l := lB st) hb ht (p := n) (by omega) (by omega) rfl h0
          rw [if_neg (show ¬ nI (hw (lB st) (upd st (164 + (bs st b t + n)) (nI x)) b t) = (0 : Int32) from fun q => hne (hw_0.mp q)), show n + 1 - 4 - (n - 4) = 1 by omega]; rfl
      rw [eq, bnd_s, e2, bnd_s, nI_add, li1, nI_add, show n - 4 + (n + 1 - 4 - (n - 4)) = n + 1 - 4 by omega]
      exact hI
theorem k_weak {se na un ma fi vo ba wr st : Nat → Int32} {bl : Int32} (r : RT se bl na un ma fi vo ba wr st) (a0 a1 : Int32) (a2 a3 : Nat → Int32) (a4 a5 : Int32) (a6 a7 : Nat → Int32) (p1 p2 : Int32) :
    ∃ v m0 l0 v0 w0 m1 l1 v1 w1, den_X6_weak se bl ma fi vo ba wr a0 a1 a2 a3 a4 a5 a6 a7 p1 p2 = some (v, m0, l0, v0, w0, m1, l1, v1, w1) ∧ den_X7_weak st p1 p2 = some (v, st) := by
  have w := r.1
  have h16 := w.n16
  unfold den_X6_weak den_X7_weak
  rw [r.blI, c_isB (by omega), m_isB w, bnd_s, bnd_s]
  by_cases c : isB (nB st) p1 = true
  · obtain ⟨b, hb, e⟩ := isB_nI c (by omega)
    subst e
    have htl := tl_le w hb
    have ht4 : 4 ≤ tl st b := by unfold tl; omega
    rw [if_pos c, if_neg (show ¬ (1 : Int32) = 0 by decide), if_neg (show ¬ (1 : Int32) = 0 by decide), m_within, bnd_s]
    by_cases c3 : p2 < 0
    · rw [if_pos c3, if_pos c3, if_pos rfl]
      exact ⟨_, _, _, _, _, _, _, _, _, rfl, rfl⟩
    obtain ⟨t, ht, e⟩ := nI_of c3
    subst e
    rw [if_neg c3, if_neg c3]
    by_cases c4 : t < 2
    · obtain ⟨m0, l0, v0, w0, m1, l1, v1, w1, e⟩ := c_st r hb c4 a0 a1 a2 a3 a4 a5 a6 a7
      rw [if_pos (show nI t < (2 : Int32) from nI_lt (b := 2) c4 (by omega)), if_neg (show ¬ (1 : Int32) < nI t from nI_nlt (b := t) (a := 1) (by omega) (by omega)), if_neg (show ¬ (1 : Int32) = 0 by decide), e, bnd_s, m_how w hb c4, bnd_s]
      by_cases c5 : hw (lB st) st b t = 0
      · have hL := m_weak_L r hb c4 c5 (tl st b) FU 0 (by omega) (by rw [FU_eq]; omega)
        rw [show nI (0 - 4) = (0 : Int32) from rfl] at hL
        rw [if_pos (show nI (hw (lB st) st b t) = (0 : Int32) from hw_0.mpr c5), if_pos (show nI (hw (lB st) st b t) = (0 : Int32) from hw_0.mpr c5), c_tl r hb, bnd_s, m_first w (by omega), bnd_s, m_tl w hb, bnd_s, hL, bnd_s, li4, nIs ht4]
        exact ⟨_, _, _, _, _, _, _, _, _, rfl, rfl⟩
      · rw [if_neg (show ¬ nI (hw (lB st) st b t) = (0 : Int32) from fun q => c5 (hw_0.mp q)), if_neg (show ¬ nI (hw (lB st) st b t) = (0 : Int32) from fun q => c5 (hw_0.mp q))]
        exact ⟨_, _, _, _, _, _, _, _, _, rfl, rfl⟩
    · rw [if_neg (show ¬ nI t < (2 : Int32) from nI_nlt (a := t) (b := 2) (by omega) (by omega)), if_pos (show (1 : Int32) < nI t from nI_lt (a := 1) (by omega) (by omega)), if_pos rfl]
      exact ⟨_, _, _, _, _, _, _, _, _, rfl, rfl⟩
  · rw [if_neg c, if_pos rfl, if_pos rfl]
    exact ⟨_, _, _, _, _, _, _, _, _, rfl, rfl⟩
