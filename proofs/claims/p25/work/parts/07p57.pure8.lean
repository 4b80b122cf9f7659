/-! fade, spoil -/
theorem up_nB {st : Nat → Int32} {c : Nat} {v : Int32} : nB (upd st (164 + c) v) = nB st := nB_of (pk_un (by omega))
theorem up_FF {st : Nat → Int32} (w : WF st) {c : Nat} {v : Int32} : FF (upd st (164 + c) v) (nB (upd st (164 + c) v)) = FF st (nB st) := by
  have h16 := w.n16
  rw [up_nB]
  exact ag_FF (n := 16) (fun j _ h2 => pk_un (by omega)) h16
theorem RT_cell1 {se na un ma fi vo ba wr st : Nat → Int32} {bl : Int32} (r : RT se bl na un ma fi vo ba wr st) {c x : Nat} (hx : x < 256) (hv : x % 128 ≤ 99) : RT se bl na un ma fi (upd vo c (nI (x % 128))) (upd ba c (nI (x / 128))) wr (upd st (164 + c) (nI x)) := by
  have w := r.1
  refine RT_cells r (fun j hj => pk_un (by omega)) (fun k => if k = c then x else cB st k) (fun k hk => ?_)
  have hc := r.2.2.2.2.2.1 k hk
  have hw := w.c hk
  by_cases e : k = c
  · subst e
    refine ⟨by rw [pk_us, if_pos rfl], by rw [if_pos rfl]; exact hx, by rw [if_pos rfl]; exact hv, by rw [pk_us, if_pos rfl], by rw [pk_us, if_pos rfl]⟩
  · refine ⟨by rw [pk_un (by omega), if_neg e]; exact hw.1, by rw [if_neg e]; exact hw.2.1, by rw [if_neg e]; exact hw.2.2, by rw [pk_un e, if_neg e]; exact hc.1, by rw [pk_un e, if_neg e]; exact hc.2⟩
theorem upd_self {f : Nat → Int32} {k : Nat} {v : Int32} (h : f k = v) : upd f k v = f := by
  funext j
  by_cases e : j = k
  · subst e; rw [pk_us, h]
  · rw [pk_un e]
theorem k_fade_L {se na un ma fi ba wr : Nat → Int32} {bl : Int32} {F b v : Nat} (hb : b < F) (hF : F ≤ 2464) (hv : v ≤ 99) : ∀ (d fu n : Nat) (y : Int32) (vo st : Nat → Int32), n + d = b + 1 → d < fu → RT se bl na un ma fi vo ba wr st → FF st (nB st) = F →
    ∃ y' vo' st', den_X4_fadeCells_L6 (nI b) (nI v) fu y (nI n) vo = some (y', vo') ∧ den_X7_fades_L6 (nI b) (nI v) fu y (nI n) st = some (y', st') ∧ RT se bl na un ma fi vo' ba wr st' := by
  intro d
  induction d with
  | zero =>
    intro fu n y vo st hn hf r hFF
    cases fu with
    | zero => omega
    | succ fu =>
      refine ⟨y, vo, st, ?_, ?_, r⟩
      · rw [den_X4_fadeCells_L6, if_pos (nI_lt (by omega) (by omega))]
      · rw [den_X7_fades_L6, if_pos (nI_lt (by omega) (by omega))]
  | succ d ih =>
    intro fu n y vo st hn hf r hFF
    cases fu with
    | zero => omega
    | succ fu =>
      have w := r.1
      have hc : n < FF st (nB st) := by omega
      have hcc := r.2.2.2.2.2.1 n hc
      have hw := w.c hc
      rw [den_X4_fadeCells_L6, if_neg (nI_nlt (by omega) (by omega)), gdI (by omega) (by omega), nI_clamp (by omega), hcc.1]
      rw [den_X7_fades_L6, if_neg (nI_nlt (by omega) (by omega)), m_vol w hc, bnd_s]
      by_cases c : cB st n % 128 ≤ v
      · rw [if_pos (nI_le c (by omega)), if_pos (nI_le c (by omega)), bnd_s, if_pos rfl, bnd_s, if_pos rfl, li164, nI_add, gdI (by omega) (by omega), bnd_s, gdI (by omega) (by omega), nI_clamp (by omega), upd_self rfl, li1, nI_add, show y + 0 = y from Int32.add_zero y]
        exact ih fu (n + 1) y vo st (by omega) (by omega) r hFF
      · have hge : ¬ nI (cB st n % 128) ≤ nI v := nI_ge (by omega) (by omega)
        have r2 := RT_cell1 r (c := n) (x := v + 128 * (cB st n / 128)) (by omega) (by omega)
        rw [show (v + 128 * (cB st n / 128)) % 128 = v by omega, show (v + 128 * (cB st n / 128)) / 128 = cB st n / 128 by omega, upd_self hcc.2] at r2
        rw [if_neg hge, if_neg hge, bnd_s, if_neg (show ¬ (1 : Int32) = 0 by decide), bnd_s, if_neg (show ¬ (1 : Int32) = 0 by decide), m_bad w hc, bnd_s, bnd_s, li164, nI_add, gdI (by omega) (by omega), gdI (by omega) (by omega), nI_clamp (by omega), li128, pk_mul, nI_add, show nI n + (1 : Int32) = nI (n + 1) by rw [li1, nI_add]]
        exact ih fu (n + 1) _ _ _ (by omega) (by omega) r2 (by rw [up_FF w]; exact hFF)
theorem k_why {se na un ma fi vo ba wr st : Nat → Int32} {bl : Int32} (r : RT se bl na un ma fi vo ba wr st) (p1 p2 p3 : Int32) : ∃ q, den_X4_errorOfFading bl fi p1 p2 p3 = some q ∧ den_X7_whyNotFaded st p1 p2 p3 = some q ∧ ((q = 0 ∧ ∃ a b v, p1 = nI a ∧ p2 = nI b ∧ p3 = nI v ∧ a ≤ b ∧ b < FF st (nB st) ∧ v ≤ 99) ∨ q = -1 ∨ q = -2) := by
  have w := r.1
  have hF := FF_2464 w (Nat.le_refl _)
  unfold den_X4_errorOfFading den_X7_whyNotFaded
  rw [c_isC r, c_isC r, m_isC w, m_isC w, m_within]
  simp only [bnd_s]
  by_cases c1 : isB (FF st (nB st)) p1 = true
  · rw [if_pos c1, if_neg (show ¬ (1 : Int32) = 0 by decide), if_neg (show ¬ (1 : Int32) = 0 by decide)]
    by_cases c2 : isB (FF st (nB st)) p2 = true
    · rw [if_pos c2, if_neg (show ¬ (1 : Int32) = 0 by decide), if_neg (show ¬ (1 : Int32) = 0 by decide)]
      obtain ⟨a, ha, e1⟩ := isB_nI c1 hF
      obtain ⟨b, hb, e2⟩ := isB_nI c2 hF
      subst e1; subst e2
      by_cases c3 : nI b < nI a
      · exact ⟨-2, by rw [if_pos c3], by rw [if_pos c3], Or.inr (Or.inr rfl)⟩
      · rw [if_neg c3, if_neg c3]
        by_cases c4 : p3 < 0
        · exact ⟨-2, by rw [if_pos c4], by rw [if_pos c4, if_pos rfl], Or.inr (Or.inr rfl)⟩
        · rw [if_neg c4, if_neg c4]
          by_cases c5 : p3 ≤ 99
          · have c6 : ¬ (99 : Int32) < p3 := by rw [lt_iff]; rw [le_iff] at c5; omega
            obtain ⟨v, hv, e⟩ := nI_of c4
            subst e
            refine ⟨0, by rw [if_pos c5], by rw [if_neg c6, if_neg (show ¬ (1 : Int32) = 0 by decide)], Or.inl ⟨rfl, a, b, v, rfl, rfl, rfl, ?_, hb, ?_⟩⟩
            · rw [nI_ltI (by omega) (by omega)] at c3; omega
            · rw [li99, nI_leI (by omega) (by omega)] at c5; exact c5
          · have c6 : (99 : Int32) < p3 := by rw [lt_iff]; rw [le_iff] at c5; omega
            exact ⟨-2, by rw [if_neg c5], by rw [if_pos c6, if_pos rfl], Or.inr (Or.inr rfl)⟩
    · exact ⟨-1, by rw [if_neg c2, if_pos rfl], by rw [if_neg c2, if_pos rfl], Or.inr (Or.inl rfl)⟩
  · exact ⟨-1, by rw [if_neg c1, if_pos rfl], by rw [if_neg c1, if_pos rfl], Or.inr (Or.inl rfl)⟩
theorem k_fadeCells {se na un ma fi vo ba wr st : Nat → Int32} {bl : Int32} (r : RT se bl na un ma fi vo ba wr st) {a b v : Nat} (ha : a ≤ b) (hb : b < FF st (nB st)) (hv : v ≤ 99) : ∃ q vo' st', den_X4_fadeCells vo (nI a) (nI b) (nI v) = some (q, vo') ∧ den_X7_fades st (nI a) (nI b) (nI v) = some (q, st') ∧ RT se bl na un ma fi vo' ba wr st' := by
  have hF := FF_2464 r.1 (Nat.le_refl _)
  obtain ⟨y', vo', st', x1, x2, x3⟩ := k_fade_L hb hF hv (b + 1 - a) FU a 0 vo st (by omega) (by rw [FU_eq]; omega) r rfl
  unfold den_X4_fadeCells den_X7_fades
  rw [x1, x2, bnd_s, bnd_s]
  exact ⟨y', vo', st', rfl, rfl, x3⟩
theorem k_fade {se na un ma fi vo ba wr st : Nat → Int32} {bl : Int32} {ho hz mr : Int32} {hs : Nat → TV} {mh : Nat → Int32} (r : RT se bl na un ma fi vo ba wr st) (H : RHx ho hz hs mh mr) (p1 p2 p3 : Int32) :
    ∃ v vo' a b c st' h' m', den_X6_fade se bl na un ma fi vo ba wr ho hz hs p1 p2 p3 = some (v, vo', a, b, c) ∧ den_X7_fade st mh mr p1 p2 p3 = some (v, st', h', m') ∧ RT se bl na un ma fi vo' ba wr st' ∧ RHx a b c h' m' := by
  obtain ⟨q, e1, e2, hq⟩ := k_why r p1 p2 p3
  unfold den_X6_fade den_X7_fade
  rw [e1, e2, bnd_s, bnd_s]
  rcases hq with ⟨hq, a, b, v, h1, h2, h3, h4, h5, h6⟩ | hq | hq
  · subst hq; subst h1; subst h2; subst h3
    obtain ⟨a', b', c', h', m', x1, x2, x3⟩ := rec_x r H
    obtain ⟨q, vo', st', y1, y2, y3⟩ := k_fadeCells r h4 h5 h6
    rw [if_pos rfl, if_pos (show (0 : Int32) ≤ 0 by decide), x1, x2, bnd_s, bnd_s, y1, y2, bnd_s, bnd_s]
    exact ⟨_, _, _, _, _, _, _, _, rfl, rfl, y3, x3⟩
  · subst hq
    rw [if_neg (show ¬ (-1 : Int32) = 0 by decide), if_neg (show ¬ (0 : Int32) ≤ -1 by decide)]
    exact ⟨_, _, _, _, _, _, _, _, rfl, rfl, r, H⟩
  · subst hq
    rw [if_neg (show ¬ (-2 : Int32) = 0 by decide), if_neg (show ¬ (0 : Int32) ≤ -2 by decide)]
    exact ⟨_, _, _, _, _, _, _, _, rfl, rfl, r, H⟩
theorem k_turn {se na un ma fi vo ba wr st : Nat → Int32} {bl : Int32} (r : RT se bl na un ma fi vo ba wr st) {c : Nat} (hc : c < FF st (nB st)) : ∃ q ba' st', den_X4_spoilCell ba (nI c) = some (q, ba') ∧ den_X7_turns st (nI c) = some (q, st') ∧ RT se bl na un ma fi vo ba' wr st' := by
  have w := r.1
  have hF := FF_2464 w (Nat.le_refl _)
  have hcc := r.2.2.2.2.2.1 c hc
  have hw := w.c hc
  have hx : ∃ x, x < 256 ∧ x % 128 = cB st c % 128 ∧ x / 128 = 1 - cB st c / 128 ∧ st (164 + c) + (if nI (cB st c / 128) = (1 : Int32) then (-128 : Int32) else 128) = nI x := by
    have h2 : cB st c / 128 = 0 ∨ cB st c / 128 = 1 := by omega
    rcases h2 with e | e
    · refine ⟨cB st c + 128, by omega, by omega, by omega, ?_⟩
      rw [e, if_neg (show ¬ nI 0 = (1 : Int32) by decide), hw.1, li128, nI_add]
    · refine ⟨cB st c - 128, by omega, by omega, by omega, ?_⟩
      rw [e, if_pos (show nI 1 = (1 : Int32) from rfl), hw.1, show (-128 : Int32) = - nI 128 from rfl, ← Int32.sub_eq_add_neg, nIs (by omega)]
  obtain ⟨x, hx1, hx2, hx3, hx4⟩ := hx
  have r2 := RT_cell1 r (c := c) (x := x) hx1 (by omega)
  rw [hx2, hx3, upd_self hcc.1] at r2
  have w2 := r2.1
  unfold den_X4_spoilCell den_X7_turns
  rw [gdI (by omega) (by omega), gdI (by omega) (by omega), nI_clamp (by omega), hcc.2, li1, nIs (by omega)]
  rw [m_bad w hc, bnd_s, show nI 1 = (1 : Int32) from rfl, li164, nI_add, gdI (by omega) (by omega)]
  rw [show (if nI (cB st c / 128) = (1 : Int32) then some (-128 : Int32) else some 128) = some (if nI (cB st c / 128) = (1 : Int32) then (-128 : Int32) else 128) by split <;> rfl, bnd_s, gdI (by omega) (by omega), nI_clamp (by omega), hx4, m_bad w2 (by rw [up_FF w]; exact hc), bnd_s]
  have e5 : cB (upd st (164 + c) (nI x)) c / 128 = 1 - cB st c / 128 := by
    have : cB (upd st (164 + c) (nI x)) c = x := by unfold cB; rw [pk_us, nI_clamp (by omega)]
    rw [this, hx3]
  rw [e5]
  exact ⟨_, _, _, rfl, rfl, r2⟩
theorem k_spoil {se na un ma fi vo ba wr st : Nat → Int32} {bl : Int32} {ho hz mr : Int32} {hs : Nat → TV} {mh : Nat → Int32} (r : RT se bl na un ma fi vo ba wr st) (H : RHx ho hz hs mh mr) (p1 : Int32) :
    ∃ v ba' a b c st' h' m', den_X6_spoil se bl na un ma fi vo ba wr ho hz hs p1 = some (v, ba', a, b, c) ∧ den_X7_spoil st mh mr p1 = some (v, st', h', m') ∧ RT se bl na un ma fi vo ba' wr st' ∧ RHx a b c h' m' := by
  have w := r.1
  have hF := FF_2464 w (Nat.le_refl _)
  unfold den_X6_spoil den_X7_spoil
  rw [c_isC r, m_isC w, bnd_s, bnd_s]
  by_cases c : isB (FF st (nB st)) p1 = true
  · obtain ⟨k, hk, e⟩ := isB_nI c hF
    subst e
    obtain ⟨a', b', c', h', m', x1, x2, x3⟩ := rec_x r H
    obtain ⟨q, ba', st', y1, y2, y3⟩ := k_turn r hk
    rw [if_pos c, if_neg (show ¬ (1 : Int32) = 0 by decide), if_neg (show ¬ (1 : Int32) = 0 by decide), x1, x2, bnd_s, bnd_s, y1, y2, bnd_s, bnd_s]
    exact ⟨_, _, _, _, _, _, _, _, rfl, rfl, y3, x3⟩
  · rw [if_neg c, if_pos rfl, if_pos rfl]
    exact ⟨_, _, _, _, _, _, _, _, rfl, rfl, r, H⟩
