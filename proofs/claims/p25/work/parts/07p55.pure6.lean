/-! changes: settings, the last block, cells -/
theorem nI_of_clamp {x : Int32} (h : ¬ x < 0) : x = nI x.toNatClampNeg := by
  obtain ⟨j, hj, e⟩ := nI_of h
  rw [e, nI_clamp hj]
theorem RT_set {se na un ma fi vo ba wr st : Nat → Int32} {bl : Int32} (r : RT se bl na un ma fi vo ba wr st) {k v : Nat} (hk : k < 3) (hv : v ≤ if k = 2 then 20 else 99) : RT (upd se k (nI v)) bl na un ma fi vo ba wr (upd st k (nI v)) := by
  obtain ⟨w, hs, hb, hn, hf, hc, hw⟩ := r
  have h16 := w.n16
  have hi : ∀ j, 3 ≤ j → upd st k (nI v) j = st j := fun j hj => pk_un (by omega)
  have a : agN 16 st (upd st k (nI v)) := fun j h1 _ => hi j (by omega)
  have hnB : nB (upd st k (nI v)) = nB st := nB_of (hi 3 (by omega))
  have hF := ag_FF a h16
  have hcB : ∀ c, cB (upd st k (nI v)) c = cB st c := fun c => cB_of (hi _ (by omega))
  have hu : ∀ j, j < 3 → (upd st k (nI v) j = if j = k then nI v else st j) := fun j _ => rfl
  have hu2 : ∀ j, j < 3 → (upd se k (nI v) j = if j = k then nI v else se j) := fun j _ => rfl
  refine ⟨⟨by rw [hnB, hi 3 (by omega)]; exact w.n, by rw [hnB]; exact h16, fun b hb => ?_, fun c hc => ?_, ?_, ?_, ?_, ?_⟩, ⟨?_, ?_, ?_⟩, by rw [hi 3 (by omega)]; exact hb, fun b hb2 => ?_, fun b hb2 => ?_, fun c hc2 => ?_, fun b t p hb2 ht h4 hp => ?_⟩
  · rw [hnB] at hb
    exact ag_WFb a (by omega) (w.2.2.1 b hb)
  · rw [hnB, hF] at hc
    rw [hcB, hi _ (by omega)]; exact w.c hc
  · unfold lB; rw [hu 1 (by omega)]
    by_cases e : 1 = k
    · subst e; rw [if_pos rfl, nI_clamp (by have : v ≤ 99 := hv; omega)]
    · rw [if_neg e]; exact w.l.1
  · unfold lB; rw [hu 1 (by omega)]
    by_cases e : 1 = k
    · subst e; rw [if_pos rfl, nI_clamp (by have : v ≤ 99 := hv; omega)]; exact hv
    · rw [if_neg e]; exact w.l.2
  · rw [hu 0 (by omega)]
    by_cases e : 0 = k
    · subst e; exact ⟨v, hv, by rw [if_pos rfl]⟩
    · rw [if_neg e]; exact w.2.2.2.2.2.2.1
  · rw [hu 2 (by omega)]
    by_cases e : 2 = k
    · subst e; exact ⟨v, hv, by rw [if_pos rfl]⟩
    · rw [if_neg e]; exact w.2.2.2.2.2.2.2
  · rw [hu 0 (by omega), hu2 0 (by omega)]; split
    · rfl
    · exact hs.1
  · rw [hu 1 (by omega), hu2 1 (by omega)]; split
    · rfl
    · exact hs.2.1
  · rw [hu 2 (by omega), hu2 2 (by omega)]; split
    · rfl
    · exact hs.2.2
  · rw [hnB] at hb2
    rw [ag_mB a (by omega), hi _ (by omega), hi _ (by omega)]; exact hn b hb2
  · rw [hnB] at hb2
    rw [ag_FF a (by omega)]; exact hf b hb2
  · rw [hnB, hF] at hc2
    rw [hcB]; exact hc c hc2
  · rw [hnB] at hb2
    have hm := w.m7 hb2
    rw [ag_tl a (by omega)] at hp
    rw [ag_bs a (by omega), ag_wb a (by omega) hm (by unfold tl at hp; omega)]; exact hw b t p hb2 ht h4 hp
theorem RT_wipe {se na un ma fi vo ba wr st : Nat → Int32} {bl : Int32} (r : RT se bl na un ma fi vo ba wr st) (h0 : 0 < nB st) : RT se (nI (nB st - 1)) na un ma fi vo ba wr (upd st 3 (nI (nB st - 1))) := by
  obtain ⟨w, hs, hb, hn, hf, hc, hw⟩ := r
  have h16 := w.n16
  have hi : ∀ j, j ≠ 3 → upd st 3 (nI (nB st - 1)) j = st j := fun j hj => pk_un hj
  have h3 : upd st 3 (nI (nB st - 1)) 3 = nI (nB st - 1) := pk_us
  have a : agN 16 st (upd st 3 (nI (nB st - 1))) := fun j h1 _ => hi j (by omega)
  have hnB : nB (upd st 3 (nI (nB st - 1))) = nB st - 1 := by
    show (upd st 3 (nI (nB st - 1)) 3).toNatClampNeg = _
    rw [h3, nI_clamp (by omega)]
  have hcB : ∀ c, cB (upd st 3 (nI (nB st - 1))) c = cB st c := fun c => cB_of (hi _ (by omega))
  have hF : FF st (nB st - 1) ≤ FF st (nB st) := FF_mono (by omega)
  refine ⟨⟨by rw [hnB]; exact h3, by rw [hnB]; omega, fun b hb => ?_, fun c hc => ?_, ?_, ?_, ?_, ?_⟩, ⟨by rw [hi 0 (by omega)]; exact hs.1, by rw [hi 1 (by omega)]; exact hs.2.1, by rw [hi 2 (by omega)]; exact hs.2.2⟩, h3.symm, fun b hb2 => ?_, fun b hb2 => ?_, fun c hc2 => ?_, fun b t p hb2 ht h4 hp => ?_⟩
  · rw [hnB] at hb
    exact ag_WFb a (by omega) (w.2.2.1 b (by omega))
  · rw [hnB, ag_FF a (by omega)] at hc
    rw [hcB, hi _ (by omega)]; exact w.c (by omega)
  · unfold lB; rw [hi 1 (by omega)]; exact w.l.1
  · unfold lB; rw [hi 1 (by omega)]; exact w.l.2
  · rw [hi 0 (by omega)]; exact w.2.2.2.2.2.2.1
  · rw [hi 2 (by omega)]; exact w.2.2.2.2.2.2.2
  · rw [hnB] at hb2
    rw [ag_mB a (by omega), hi _ (by omega), hi _ (by omega)]; exact hn b (by omega)
  · rw [hnB] at hb2
    rw [ag_FF a (by omega)]; exact hf b (by omega)
  · rw [hnB, ag_FF a (by omega)] at hc2
    rw [hcB]; exact hc c (by omega)
  · rw [hnB] at hb2
    have hm := w.m7 (b := b) (by omega)
    rw [ag_tl a (by omega)] at hp
    rw [ag_bs a (by omega), ag_wb a (by omega) hm (by unfold tl at hp; omega)]; exact hw b t p (by omega) ht h4 hp
theorem RT_cells {se na un ma fi vo ba wr st s2 vo2 ba2 : Nat → Int32} {bl : Int32} (r : RT se bl na un ma fi vo ba wr st) (hlow : ∀ j, j < 164 → s2 j = st j) (x : Nat → Nat) (hx : ∀ c, c < FF st (nB st) → s2 (164 + c) = nI (x c) ∧ x c < 256 ∧ x c % 128 ≤ 99 ∧ vo2 c = nI (x c % 128) ∧ ba2 c = nI (x c / 128)) : RT se bl na un ma fi vo2 ba2 wr s2 := by
  obtain ⟨w, hs, hb, hn, hf, hc, hw⟩ := r
  have h16 := w.n16
  have a : agN 16 st s2 := fun j _ h2 => hlow j (by omega)
  have hnB : nB s2 = nB st := nB_of (hlow 3 (by omega))
  have hF := ag_FF a h16
  have hcB : ∀ c, c < FF st (nB st) → cB s2 c = x c := fun c hc => by
    have h1 := hx c hc
    unfold cB; rw [h1.1, nI_clamp (by omega)]
  refine ⟨⟨by rw [hnB, hlow 3 (by omega)]; exact w.n, by rw [hnB]; exact h16, fun b hb => ?_, fun c hc => ?_, ?_, ?_, ?_, ?_⟩, ⟨by rw [hlow 0 (by omega)]; exact hs.1, by rw [hlow 1 (by omega)]; exact hs.2.1, by rw [hlow 2 (by omega)]; exact hs.2.2⟩, by rw [hlow 3 (by omega)]; exact hb, fun b hb2 => ?_, fun b hb2 => ?_, fun c hc2 => ?_, fun b t p hb2 ht h4 hp => ?_⟩
  · rw [hnB] at hb
    exact ag_WFb a (by omega) (w.2.2.1 b hb)
  · rw [hnB, hF] at hc
    have h1 := hx c hc
    rw [hcB c hc]; exact ⟨h1.1, h1.2.1, h1.2.2.1⟩
  · unfold lB; rw [hlow 1 (by omega)]; exact w.l.1
  · unfold lB; rw [hlow 1 (by omega)]; exact w.l.2
  · rw [hlow 0 (by omega)]; exact w.2.2.2.2.2.2.1
  · rw [hlow 2 (by omega)]; exact w.2.2.2.2.2.2.2
  · rw [hnB] at hb2
    rw [ag_mB a (by omega), hlow _ (by omega), hlow _ (by omega)]; exact hn b hb2
  · rw [hnB] at hb2
    rw [ag_FF a (by omega)]; exact hf b hb2
  · rw [hnB, hF] at hc2
    have h1 := hx c hc2
    rw [hcB c hc2]; exact ⟨h1.2.2.2.1, h1.2.2.2.2⟩
  · rw [hnB] at hb2
    have hm := w.m7 hb2
    rw [ag_tl a (by omega)] at hp
    rw [ag_bs a (by omega), ag_wb a (by omega) hm (by unfold tl at hp; omega)]; exact hw b t p hb2 ht h4 hp
/-! the landed class's questions -/
theorem isB_iff {n : Nat} {p : Int32} (hn : n ≤ 2464) : isB n p = true ↔ ¬ p < 0 ∧ ¬ nI n ≤ p := by
  unfold isB
  rw [Bool.and_eq_true, decide_eq_true_eq, decide_eq_true_eq]
  constructor
  · intro h
    refine ⟨h.1, fun q => ?_⟩
    rw [le_iff, nI_toInt (by omega), clamp_nonneg h.1] at q
    omega
  · intro h
    refine ⟨h.1, ?_⟩
    have h2 := h.2
    rw [le_iff, nI_toInt (by omega), clamp_nonneg h.1] at h2
    omega
theorem c_isB {n : Nat} (hn : n ≤ 2464) (p : Int32) : den_X4_hasBlock (nI n) p = some (if isB n p = true then 1 else 0) := by
  unfold den_X4_hasBlock
  have e := isB_iff (n := n) (p := p) hn
  by_cases c : p < 0
  · rw [if_pos c, if_neg (fun q => (e.mp q).1 c)]
  · rw [if_neg c]
    by_cases c2 : nI n ≤ p
    · rw [if_pos c2, if_neg (fun q => (e.mp q).2 c2)]
    · rw [if_neg c2, if_pos (e.mpr ⟨c, c2⟩)]
theorem c_cellsN {se na un ma fi vo ba wr st : Nat → Int32} {bl : Int32} (r : RT se bl na un ma fi vo ba wr st) : den_X4_cells bl fi = some (nI (FF st (nB st))) := by
  obtain ⟨w, hs, hb, hn, hf, hc, hw⟩ := r
  have h16 := w.n16
  unfold den_X4_cells
  rw [hb, w.n, gdI (by omega) (by omega), nI_clamp (by omega), hf _ (Nat.le_refl _)]
theorem c_isC {se na un ma fi vo ba wr st : Nat → Int32} {bl : Int32} (r : RT se bl na un ma fi vo ba wr st) (p : Int32) : den_X4_hasCell bl fi p = some (if isB (FF st (nB st)) p = true then 1 else 0) := by
  have h2 := FF_2464 r.1 (Nat.le_refl _)
  unfold den_X4_hasCell
  rw [c_cellsN r, bnd_s]
  have e := isB_iff (n := FF st (nB st)) (p := p) h2
  by_cases c : p < 0
  · rw [if_pos c, if_neg (fun q => (e.mp q).1 c)]
  · rw [if_neg c]
    by_cases c2 : nI (FF st (nB st)) ≤ p
    · rw [if_pos c2, if_neg (fun q => (e.mp q).2 c2)]
    · rw [if_neg c2, if_pos (e.mpr ⟨c, c2⟩)]
