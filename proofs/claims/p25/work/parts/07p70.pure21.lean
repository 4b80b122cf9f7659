/-! write: the reference's block, the relation behind it -/
theorem wk_WF {st s2 : Nat → Int32} (w : WF st) (h0 : ∀ j, j < 4 → s2 j = st j) (h1 : agN (nB st) st s2) (h2 : ∀ c, c < FF st (nB st) → s2 (164 + c) = st (164 + c)) : WF s2 := by
  have h16 := w.n16
  have hn : nB s2 = nB st := nB_of (h0 3 (by omega))
  refine ⟨by rw [hn, h0 3 (by omega)]; exact w.n, by rw [hn]; exact h16, fun b hb => ?_, fun c hc => ?_, by unfold lB; rw [h0 1 (by omega)]; exact w.l.1, by unfold lB; rw [h0 1 (by omega)]; exact w.l.2, ?_, ?_⟩
  · rw [hn] at hb
    exact ag_WFb h1 hb (w.2.2.1 b hb)
  · rw [hn, ag_FF h1 (Nat.le_refl _)] at hc
    rw [cB_of (h2 c hc), h2 c hc]; exact w.c hc
  · rw [h0 0 (by omega)]; exact w.2.2.2.2.2.2.1
  · rw [h0 2 (by omega)]; exact w.2.2.2.2.2.2.2
def W3 (st s3 : Nat → Int32) (n F E m N : Nat) (p1 p2 : Int32) : Prop := (∀ j, j < 3 → s3 j = st j) ∧ s3 3 = nI (n + 1) ∧ agN n st s3 ∧ s3 (4 + 10 * n + 0) = p1 ∧ s3 (4 + 10 * n + 1) = p2 ∧ s3 (4 + 10 * n + 2) = nI m ∧ (∀ k, k < 7 → s3 (4 + 10 * n + (3 + k)) = if k < m then nI (bN N k) else 0) ∧ (∀ c, c < F → s3 (164 + c) = st (164 + c)) ∧ ∀ c, F ≤ c → c < F + E → s3 (164 + c) = st 0
theorem RT_app {se na un ma fi vo ba wr st : Nat → Int32} {bl : Int32} (r : RT se bl na un ma fi vo ba wr st) {s3 fi2 vo2 ba2 wr2 : Nat → Int32} {n F E m N : Nat} {p1 p2 : Int32} (hn : n = nB st) (hn16 : n < 16) (hF : F = FF st (nB st)) (hm1 : 1 ≤ m) (hm : m ≤ 7) (hE : E = 2 * (4 + 9 * (m + 1)) + 2) (hp2 : p2 = -6 ∨ ∃ u, u < nB st ∧ p2 = nI u) (W : W3 st s3 n F E m N p1 p2)
    (hfi : fi2 = upd fi (n + 1) (nI (F + E))) (hvo : vo2 = fl vo F E (fun _ => se 0)) (hba : ba2 = fl ba F E (fun _ => 0))
    (hw1 : ∀ t i, t < 2 → i < 9 * (m + 1) → wr2 (F + t * (4 + 9 * (m + 1)) + 4 + i) = nI (wW N m i)) (hw2 : ∀ j, j < F → wr2 j = wr j) :
    RT se (nI (n + 1)) (upd na n p1) (upd un n p2) (upd ma n (nI m)) fi2 vo2 ba2 wr2 s3 := by
  obtain ⟨w, hs, hb, hnm, hf, hc, hw⟩ := r
  obtain ⟨g0, g3, ga, gn0, gn1, gn2, gy, gc, gc2⟩ := W
  obtain ⟨a0, ha0, ea0⟩ := w.2.2.2.2.2.2.1
  have hnB3 : nB s3 = n + 1 := by unfold nB; rw [g3, nI_clamp (by omega)]
  have hm3 : mB s3 n = m := by unfold mB; rw [gn2, nI_clamp (by omega)]
  have hFF : FF s3 n = F := by rw [ag_FF ga (Nat.le_refl _), hF, hn]
  have hFF1 : FF s3 (n + 1) = F + E := by
    rw [FF_s, hFF]; unfold tl; rw [hm3, hE]
  have hFle := FF_le w (b := nB st) (Nat.le_refl _)
  have hy3 : ∀ k, k < 7 → yB s3 n k = if k < m then bN N k else 0 := fun k hk => by
    unfold yB
    rw [gy k hk]
    have := bN_lt N k
    by_cases c : k < m
    · rw [if_pos c, if_pos c, nI_clamp (by omega)]
    · rw [if_neg c, if_neg c]; rfl
  have hcB1 : ∀ c, c < F → cB s3 c = cB st c := fun c h => cB_of (gc c h)
  have hcB2 : ∀ c, F ≤ c → c < F + E → cB s3 c = a0 := fun c h1 h2 => by unfold cB; rw [gc2 c h1 h2, ea0, nI_clamp (by omega)]
  have hsy : ∀ k, k ≤ m → sy s3 n k = sumN N k := by
    intro k
    induction k with
    | zero => intro _; rfl
    | succ k ih =>
      intro hk
      show sy s3 n k + yB s3 n k = sumN N k + bN N k
      rw [ih (by omega), hy3 k (by omega), if_pos (by omega)]
  have hbyt : ∀ k, k ≤ m → byt s3 n k = bW N m k := fun k hk => by
    unfold byt bW
    rw [hm3, hsy m (Nat.le_refl _)]
    by_cases c : k = m
    · rw [if_pos c, if_pos c]
    · rw [if_neg c, if_neg c, hy3 k (by omega), if_pos (by omega)]
  refine ⟨⟨by rw [hnB3]; exact g3, by rw [hnB3]; omega, fun b hb2 => ?_, fun c hc2 => ?_, by unfold lB; rw [g0 1 (by omega)]; exact w.l.1, by unfold lB; rw [g0 1 (by omega)]; exact w.l.2, by rw [g0 0 (by omega)]; exact w.2.2.2.2.2.2.1, by rw [g0 2 (by omega)]; exact w.2.2.2.2.2.2.2⟩, ⟨by rw [g0 0 (by omega)]; exact hs.1, by rw [g0 1 (by omega)]; exact hs.2.1, by rw [g0 2 (by omega)]; exact hs.2.2⟩, g3.symm, fun b hb2 => ?_, fun b hb2 => ?_, fun c hc2 => ?_, fun b t p hb2 ht h4 hp => ?_⟩
  · rw [hnB3] at hb2
    by_cases e : b = n
    · subst e
      refine ⟨by rw [hm3]; exact gn2, by rw [hm3]; exact hm1, by rw [hm3]; exact hm, ?_, fun k hk => ?_⟩
      · rw [gn1, hn]; exact hp2
      · have := bN_lt N k
        rw [hy3 k hk, gy k hk]
        by_cases c : k < m
        · rw [if_pos c, if_pos c]; exact ⟨rfl, this⟩
        · rw [if_neg c, if_neg c]; exact ⟨rfl, by omega⟩
    · exact ag_WFb ga (by omega) (w.2.2.1 b (by omega))
  · rw [hnB3, hFF1] at hc2
    by_cases c' : c < F
    · rw [hcB1 c c', gc c c']; exact w.c (by rw [← hF]; exact c')
    · rw [hcB2 c (by omega) hc2, gc2 c (by omega) hc2]; exact ⟨ea0, by omega, by omega⟩
  · rw [hnB3] at hb2
    by_cases e : b = n
    · subst e; rw [pk_us, pk_us, pk_us, gn0, gn1, hm3]; exact ⟨rfl, rfl, rfl⟩
    · rw [pk_un e, pk_un e, pk_un e, ag_mB ga (by omega), ga _ (by omega) (by omega), ga _ (by omega) (by omega)]
      exact hnm b (by omega)
  · rw [hnB3] at hb2
    rw [hfi]
    by_cases e : b = n + 1
    · subst e; rw [pk_us, hFF1]
    · rw [pk_un e, ag_FF ga (by omega)]; exact hf b (by omega)
  · rw [hnB3, hFF1] at hc2
    rw [hvo, hba]
    by_cases c' : c < F
    · rw [fl_out (Or.inl c'), fl_out (Or.inl c'), hcB1 c c']; exact hc c (by rw [← hF]; exact c')
    · obtain ⟨i, hi⟩ : ∃ i, c = F + i := ⟨c - F, by omega⟩
      rw [hcB2 c (by omega) hc2, hi, fl_in (by omega), fl_in (by omega), hs.1, ea0, show a0 % 128 = a0 by omega, show a0 / 128 = 0 by omega]
      exact ⟨rfl, rfl⟩
  · rw [hnB3] at hb2
    by_cases e : b = n
    · subst e
      have htl : tl s3 b = 4 + 9 * (m + 1) := by unfold tl; rw [hm3]
      rw [htl] at hp
      have hb3 : bs s3 b t + p = F + t * (4 + 9 * (m + 1)) + 4 + (p - 4) := by unfold bs; rw [hFF, htl]; omega
      rw [hb3, hw1 t (p - 4) ht (by omega)]
      have : wb s3 b (p - 4) = wW N m (p - 4) := by
        unfold wb wW
        rw [hbyt _ (by omega)]
      rw [this]
    · have hbn : b < nB st := by omega
      have hm7 := w.m7 hbn
      rw [ag_tl ga (by omega)] at hp
      have hcell := cell_in hbn ht hp
      have hbs : bs s3 b t = bs st b t := ag_bs ga (by omega) t
      rw [hbs, hw2 _ (by rw [hF]; exact hcell), ag_wb ga (by omega) hm7 (by unfold tl at hp; omega)]
      exact hw b t p hbn ht h4 hp
theorem m_found_L {x : Int64} {m : Nat} (hm : m ≤ 7) (fd : Nat → Int32) : ∀ (d fu n : Nat), n + d = m → d < fu →
    den_X7_write_L24 (nI m) x fu (nI n) (fl fd 0 n (fun k => nI (bN (uN x) k))) = some (fl fd 0 m (fun k => nI (bN (uN x) k))) := by
  intro d
  induction d with
  | zero =>
    intro fu n hn hf
    cases fu with
    | zero => omega
    | succ fu =>
      have : n = m := by omega
      subst this
      rw [den_X7_write_L24, if_pos (nI_le (Nat.le_refl _) (by omega))]
  | succ d ih =>
    intro fu n hn hf
    cases fu with
    | zero => omega
    | succ fu =>
      have hs := fl_s fd 0 n (fun k => nI (bN (uN x) k))
      rw [Nat.zero_add] at hs
      rw [den_X7_write_L24, if_neg (nI_ge (by omega) (by omega)), gdI (by omega) (by omega), m_bt (by omega), nI_clamp (by omega), hs, li1, nI_add]
      exact ih fu (n + 1) (by omega) (by omega)
theorem m_bytes_L {fd s0 : Nat → Int32} {n m N : Nat} (hn : n < 16) (hm : m ≤ 7) (hfd : ∀ k, k < m → fd k = nI (bN N k)) : ∀ (d fu k : Nat), k + d = 7 → d < fu →
    den_X7_writes_L50 (nI m) fd (nI (4 + 10 * n)) fu (nI k) (fl s0 (4 + 10 * n + 3) k (fun k => if k < m then nI (bN N k) else 0)) = some (fl s0 (4 + 10 * n + 3) 7 (fun k => if k < m then nI (bN N k) else 0)) := by
  intro d
  induction d with
  | zero =>
    intro fu k hk hf
    cases fu with
    | zero => omega
    | succ fu =>
      have : k = 7 := by omega
      subst this
      rw [den_X7_writes_L50, if_pos (show (7 : Int32) ≤ nI 7 by decide)]
  | succ d ih =>
    intro fu k hk hf
    cases fu with
    | zero => omega
    | succ fu =>
      have hs := fl_s s0 (4 + 10 * n + 3) k (fun k => if k < m then nI (bN N k) else 0)
      have hq : (if nI m ≤ nI k then some (0 : Int32) else gd (inb (nI k) 7) (some (fd (nI k).toNatClampNeg))) = some (if k < m then nI (bN N k) else 0) := by
        by_cases c : k < m
        · rw [if_neg (nI_ge (by omega) (by omega)), gdI (by omega) (by omega), nI_clamp (by omega), hfd k c, if_pos c]
        · rw [if_pos (nI_le (by omega) (by omega)), if_neg c]
      rw [den_X7_writes_L50, if_neg (show ¬ (7 : Int32) ≤ nI k from nI_ge (b := 7) (by omega) (by omega)), hq, bnd_s, li3, nI_add, nI_add, gdI (by omega) (by omega), nI_clamp (by omega), hs, li1, nI_add]
      exact ih fu (k + 1) (by omega) (by omega)
theorem m_fillc_L {st s0 : Nat → Int32} {n m F : Nat} (hst : st 3 = nI n) (hn : n < 16) (hm : m ≤ 7) (hs0 : s0 (4 + 10 * n + 2) = nI m) (hF : F + (2 * (4 + 9 * (m + 1)) + 2) ≤ 2464) : ∀ (d fu k : Nat), k + d = 2 * (4 + 9 * (m + 1)) + 2 → d < fu →
    den_X7_writes_L103 st (nI F) fu (nI k) (fl s0 (164 + F) k (fun _ => s0 0)) = some (fl s0 (164 + F) (2 * (4 + 9 * (m + 1)) + 2) (fun _ => s0 0)) := by
  have hcell : ∀ k, den_X7_cellsOf (fl s0 (164 + F) k (fun _ => s0 0)) (nI n) = some (nI (2 * (4 + 9 * (m + 1)) + 2)) := fun k => by
    unfold den_X7_cellsOf den_X7_tellingSize
    rw [m_part2 _ hn, bnd_s, fl_out (Or.inl (by omega)), hs0, bnd_s]
    simp only [li4, li9, li1, li2, nI_add, pk_mul]
  intro d
  induction d with
  | zero =>
    intro fu k hk hf
    cases fu with
    | zero => omega
    | succ fu =>
      have : k = 2 * (4 + 9 * (m + 1)) + 2 := by omega
      rw [den_X7_writes_L103, hst, hcell, bnd_s, if_pos (nI_le (by omega) (by omega)), this]
  | succ d ih =>
    intro fu k hk hf
    cases fu with
    | zero => omega
    | succ fu =>
      have hs := fl_s s0 (164 + F) k (fun _ => s0 0)
      have h0 : fl s0 (164 + F) k (fun _ => s0 0) 0 = s0 0 := fl_out (Or.inl (by omega))
      rw [den_X7_writes_L103, hst, hcell, bnd_s, if_neg (nI_ge (by omega) (by omega)), li164, nI_add, nI_add, gdI (by omega) (by omega), nI_clamp (by omega), h0, hs, li1, nI_add]
      exact ih fu (k + 1) (by omega) (by omega)
