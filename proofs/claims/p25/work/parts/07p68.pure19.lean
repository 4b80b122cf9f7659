/-! write: the checks, the bytes -/
theorem bc_all : ∀ v : Fin 256, den_J6_bitCount_0f7a4 (nI v.val) = some (nI (sb v.val 8)) := by decide +kernel
theorem c_bc {v : Nat} (hv : v < 256) : den_J6_bitCount_0f7a4 (nI v) = some (nI (sb v 8)) := bc_all ⟨v, hv⟩
theorem sshr (x c : Int64) {k : Nat} (hk : k < 8) (hc : (c.toBitVec.smod 64).toNat = 8 * k) : uN (x >>> c) % 256 = bN (uN x) k := by
  have h1 : uN (x >>> c) = (x.toBitVec.sshiftRight (8 * k)).toNat := by
    show (x >>> c).toBitVec.toNat = _
    rw [Int64.toBitVec_shiftRight, ← hc]
    rfl
  have h2 : (x.toBitVec.sshiftRight (8 * k)).toInt = x.toBitVec.toInt >>> (8 * k) := BitVec.toInt_sshiftRight
  have h3 : (x.toBitVec.sshiftRight (8 * k)).toNat = ((x.toBitVec.toInt >>> (8 * k)) % 2 ^ 64).toNat := by
    rw [← h2]
    have := BitVec.toInt_eq_toNat_cond (x.toBitVec.sshiftRight (8 * k))
    have hl := (x.toBitVec.sshiftRight (8 * k)).isLt
    rw [this]
    split <;> omega
  have h4 : x.toBitVec.toInt = if 2 * uN x < 2 ^ 64 then (uN x : Int) else (uN x : Int) - 2 ^ 64 := BitVec.toInt_eq_toNat_cond x.toBitVec
  have hu := uN_lt x
  rw [h1, h3, Int.shiftRight_eq_div_pow, h4]
  unfold bN
  have : k = 0 ∨ k = 1 ∨ k = 2 ∨ k = 3 ∨ k = 4 ∨ k = 5 ∨ k = 6 ∨ k = 7 := by omega
  rcases this with e | e | e | e | e | e | e | e <;> subst e <;> split <;> omega
theorem m_bt {x : Int64} {k : Nat} (hk : k < 7) : (((x >>> (((8 : Int32) * nI k).toInt64 &&& 63)) &&& (255 : Int64))).toInt32 = nI (bN (uN x) k) := by
  have hc : (((((8 : Int32) * nI k).toInt64 &&& 63) : Int64).toBitVec.smod 64).toNat = 8 * k := by
    have : k = 0 ∨ k = 1 ∨ k = 2 ∨ k = 3 ∨ k = 4 ∨ k = 5 ∨ k = 6 := by omega
    rcases this with e | e | e | e | e | e | e <;> subst e <;> decide +kernel
  rw [and8, sshr x _ (by omega) hc]
def gdW (st : Nat → Int32) (p1 p2 p3 : Int32) : Prop := nB st < 16 ∧ (∃ a, a ≤ 99 ∧ p1 = nI a) ∧ (∃ m, 1 ≤ m ∧ m ≤ 7 ∧ p3 = nI m) ∧ (p2 = -6 ∨ ∃ u, u < nB st ∧ p2 = nI u)
theorem k_whyW {se na un ma fi vo ba wr st : Nat → Int32} {bl : Int32} (r : RT se bl na un ma fi vo ba wr st) (p1 p2 p3 : Int32) : ∃ q, den_X4_errorOfBlock bl p1 p2 p3 = some q ∧ den_X7_whyNotWritten st p1 p2 p3 = some q ∧ ((q = 0 ∧ gdW st p1 p2 p3) ∨ q = -1 ∨ q = -2 ∨ q = -4) := by
  have w := r.1
  have h16 := w.n16
  unfold den_X4_errorOfBlock den_X7_whyNotWritten
  rw [r.blI, c_isB (by omega), m_isB w, m_within, m_within]
  simp only [bnd_s, nm_d]
  have J : (p2 = -6 ∨ ∃ u, u < nB st ∧ p2 = nI u) → ∃ q, (if p1 < 0 then some (-2 : Int32) else if (99 : Int32) < p1 then some (-2) else if p3 < (1 : Int32) then some (-2) else if p3 ≤ (7 : Int32) then (if nI (nB st) < (16 : Int32) then some 0 else some (-4)) else some (-2)) = some q ∧ (if (if p1 < 0 then (0 : Int32) else if (99 : Int32) < p1 then 0 else 1) = 0 then some (-2 : Int32) else if (if p3 < (1 : Int32) then (0 : Int32) else if (7 : Int32) < p3 then 0 else 1) = 0 then some (-2) else if st 3 = (16 : Int32) then some (-4) else some 0) = some q ∧ ((q = 0 ∧ gdW st p1 p2 p3) ∨ q = -1 ∨ q = -2 ∨ q = -4) := by
    intro hu
    by_cases c1 : p1 < 0
    · exact ⟨-2, by rw [if_pos c1], by rw [if_pos c1, if_pos rfl], Or.inr (Or.inr (Or.inl rfl))⟩
    rw [if_neg c1, if_neg c1]
    by_cases c2 : (99 : Int32) < p1
    · exact ⟨-2, by rw [if_pos c2], by rw [if_pos c2, if_pos rfl], Or.inr (Or.inr (Or.inl rfl))⟩
    rw [if_neg c2, if_neg c2, if_neg (show ¬ (1 : Int32) = 0 by decide)]
    by_cases c3 : p3 < (1 : Int32)
    · exact ⟨-2, by rw [if_pos c3], by rw [if_pos c3, if_pos rfl], Or.inr (Or.inr (Or.inl rfl))⟩
    rw [if_neg c3, if_neg c3]
    by_cases c4 : p3 ≤ (7 : Int32)
    · have c5 : ¬ (7 : Int32) < p3 := by rw [lt_iff]; rw [le_iff] at c4; omega
      rw [if_pos c4, if_neg c5, if_neg (show ¬ (1 : Int32) = 0 by decide), w.n]
      by_cases c6 : nB st < 16
      · have e6 : ¬ nI (nB st) = (16 : Int32) := fun q => by
          have := (nI_eq (a := nB st) (b := 16) (by omega) (by omega)).mp q; omega
        refine ⟨0, by rw [if_pos (show nI (nB st) < (16 : Int32) from nI_lt (b := 16) c6 (by omega))], by rw [if_neg e6], Or.inl ⟨rfl, c6, ?_, ?_, hu⟩⟩
        · obtain ⟨a, ha, e⟩ := nI_of c1
          subst e
          refine ⟨a, ?_, rfl⟩
          rw [li99, nI_ltI (by omega) (by omega)] at c2; omega
        · have c30 : ¬ p3 < 0 := fun q => c3 (by rw [lt_iff] at q ⊢; rw [show (0 : Int32).toInt = 0 by decide] at q; rw [show (1 : Int32).toInt = 1 by decide]; omega)
          obtain ⟨m, hm, e⟩ := nI_of c30
          subst e
          rw [li7, nI_leI (by omega) (by omega)] at c4
          rw [li1, nI_ltI (by omega) (by omega)] at c3
          exact ⟨m, by omega, c4, rfl⟩
      · have e6 : nI (nB st) = (16 : Int32) := by rw [show nB st = 16 by omega]; rfl
        exact ⟨-4, by rw [if_neg (show ¬ nI (nB st) < (16 : Int32) from nI_nlt (a := nB st) (b := 16) (by omega) (by omega))], by rw [if_pos e6], Or.inr (Or.inr (Or.inr rfl))⟩
    · have c5 : (7 : Int32) < p3 := by rw [lt_iff]; rw [le_iff] at c4; omega
      exact ⟨-2, by rw [if_neg c4], by rw [if_pos c5, if_pos rfl], Or.inr (Or.inr (Or.inl rfl))⟩
  by_cases c : isB (nB st) p2 = true
  · obtain ⟨u, hu, e⟩ := isB_nI c (by omega)
    subst e
    rw [if_neg (nI_ne6 (by omega)), if_pos c, if_neg (show ¬ (1 : Int32) = 0 by decide), if_neg (show ¬ (1 : Int32) = 0 by decide)]
    exact J (Or.inr ⟨u, hu, rfl⟩)
  · rw [if_neg c, if_pos rfl, if_pos rfl]
    by_cases c6 : p2 = -6
    · rw [if_pos c6, if_pos c6]
      exact J (Or.inl c6)
    · rw [if_neg c6, if_neg c6]
      exact ⟨-1, rfl, rfl, Or.inr (Or.inl rfl)⟩
