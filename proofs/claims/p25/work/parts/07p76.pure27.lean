/-! the bytes of an order -/
theorem uN_nI {w : Nat} (hw : w < 2 ^ 31) : uN (nI w).toInt64 = w := by
  rw [nI_l hw]
  show (BitVec.ofNat 64 w).toNat = w
  rw [BitVec.toNat_ofNat]
  omega
theorem sl_k8 (x : Int64) {k : Nat} (hk : k < 8) : x <<< ((nI k * (8 : Int32)).toInt64 &&& 63) = sl x (8 * k) := by
  rw [Int32.mul_comm, sl_8k x hk]
theorem uN_add {x : Int64} {w k : Nat} (hk : k < 7) (hw : w < 256) (hx : uN x < 2 ^ (8 * k)) : uN (x ||| sl (nI w).toInt64 (8 * k)) = uN x + 2 ^ (8 * k) * w := by
  unfold uN at *
  rw [Int64.toBitVec_or, BitVec.toNat_or, sl_bv, BitVec.toNat_shiftLeft]
  have h1 : ((nI w).toInt64).toBitVec.toNat = w := uN_nI (by omega)
  rw [h1, Nat.shiftLeft_eq]
  have h2 : w * 2 ^ (8 * k) < 2 ^ 64 := by
    have : k = 0 ∨ k = 1 ∨ k = 2 ∨ k = 3 ∨ k = 4 ∨ k = 5 ∨ k = 6 := by omega
    rcases this with e | e | e | e | e | e | e <;> subst e <;> omega
  rw [Nat.mod_eq_of_lt h2, or_add hx]
theorem bN_top {x w k : Nat} (hw : w < 256) (hx : x < 2 ^ (8 * k)) : bN (x + 2 ^ (8 * k) * w) k = w := by
  unfold bN
  rw [Nat.add_mul_div_left _ _ (Nat.pow_pos (by omega)), Nat.div_eq_of_lt hx, Nat.zero_add, Nat.mod_eq_of_lt hw]
theorem bN_low {x w k j : Nat} (hj : j < k) : bN (x + 2 ^ (8 * k) * w) j = bN x j := by
  unfold bN
  obtain ⟨d, hd⟩ : ∃ d, k = j + (d + 1) := ⟨k - j - 1, by omega⟩
  rw [show 2 ^ (8 * k) * w = 2 ^ (8 * j) * (256 * (2 ^ (8 * d) * w)) by
    rw [hd, show 8 * (j + (d + 1)) = 8 * j + (8 + 8 * d) by omega, Nat.pow_add, Nat.pow_add, show (2 : Nat) ^ 8 = 256 from rfl]
    simp only [Nat.mul_assoc], Nat.add_mul_div_left _ _ (Nat.pow_pos (by omega)), Nat.add_mul_mod_self_left]
/-- the landed bytes (the first seven) and the reference's numbers from off on -/
def BY (B : Int64) (tg : Int32) (nu : Nat → Int32) (off cnt : Nat) : Prop := uN B < 2 ^ (8 * (if cnt < 7 then cnt else 7)) ∧ (∃ nv : Nat → Nat, (∀ k, k < cnt → nu (off + k) = nI (nv k) ∧ nv k ≤ 9999) ∧ (∀ k, k < cnt → k < 7 → bN (uN B) k = nv k % 256) ∧ ((tg = 0 ∧ ∀ k, k < cnt → nv k < 256) ∨ (tg = 1 ∧ ∃ k, k < cnt ∧ 256 ≤ nv k)))
theorem BY_0 (nu : Nat → Int32) (off : Nat) : BY 0 0 nu off 0 := by
  refine ⟨?_, fun _ => 0, fun k hk => by omega, fun k hk => by omega, Or.inl ⟨rfl, fun k hk => by omega⟩⟩
  show uN 0 < 2 ^ (8 * (if 0 < 7 then 0 else 7))
  rw [if_pos (by omega), (uN0 0).mp rfl]
  decide
theorem c_addB {B : Int64} {tg : Int32} {nu : Nat → Int32} {off cnt v : Nat} (hb : BY B tg nu off cnt) (hc : cnt < 2 ^ 20) (hv : v ≤ 9999) :
    ∃ B' tg', den_X2_addByte (nI cnt) B tg (nI v) = some (nI (cnt + 1), B', tg') ∧ BY B' tg' (upd nu (off + cnt) (nI v)) off (cnt + 1) := by
  obtain ⟨h1, nv, h2, h3, h4⟩ := hb
  have hnu : ∀ k, k < cnt + 1 → upd nu (off + cnt) (nI v) (off + k) = nI (if k = cnt then v else nv k) ∧ (if k = cnt then v else nv k) ≤ 9999 := fun k hk => by
    by_cases e : k = cnt
    · subst e; rw [pk_us, if_pos rfl]; exact ⟨rfl, hv⟩
    · rw [pk_un (by omega), if_neg e]; exact h2 k (by omega)
  have htg : (((if v ≤ 255 then tg else 1) = 0 ∧ ∀ k, k < cnt + 1 → (if k = cnt then v else nv k) < 256) ∨ ((if v ≤ 255 then tg else 1) = 1 ∧ ∃ k, k < cnt + 1 ∧ 256 ≤ (if k = cnt then v else nv k))) := by
    by_cases c : v ≤ 255
    · rw [if_pos c]
      rcases h4 with ⟨g1, g2⟩ | ⟨g1, k, g2, g3⟩
      · refine Or.inl ⟨g1, fun k hk => ?_⟩
        by_cases e : k = cnt
        · rw [if_pos e]; omega
        · rw [if_neg e]; exact g2 k (by omega)
      · refine Or.inr ⟨g1, k, by omega, ?_⟩
        rw [if_neg (by omega)]; exact g3
    · rw [if_neg c]
      exact Or.inr ⟨rfl, cnt, by omega, by rw [if_pos rfl]; omega⟩
  have e1 : (if nI v ≤ (255 : Int32) then some tg else some (1 : Int32)) = some (if v ≤ 255 then tg else 1) := by
    by_cases c : v ≤ 255
    · rw [if_pos (show nI v ≤ (255 : Int32) from nI_le (b := 255) c (by omega)), if_pos c]
    · rw [if_neg (show ¬ nI v ≤ (255 : Int32) from nI_ge (a := 255) (by omega) (by omega)), if_neg c]
  unfold den_X2_addByte
  rw [e1, bnd_s]
  by_cases c : 7 ≤ cnt
  · rw [if_pos (show (7 : Int32) ≤ nI cnt from nI_le (a := 7) c (by omega)), bnd_s, li1, nI_add]
    refine ⟨_, _, rfl, ?_, fun k => if k = cnt then v else nv k, hnu, fun k hk hk7 => ?_, htg⟩
    · rw [if_neg (by omega)] at h1 ⊢; exact h1
    · show _ = (if k = cnt then v else nv k) % 256
      rw [if_neg (by omega)]; exact h3 k (by omega) hk7
  · rw [if_neg (show ¬ (7 : Int32) ≤ nI cnt from nI_ge (b := 7) (by omega) (by omega)), show nI v &&& (255 : Int32) = nI (v % 256) from and255 v, sl_k8 _ (by omega), nm_d, bnd_s, li1, nI_add]
    rw [if_pos (by omega)] at h1
    have hu := uN_add (x := B) (w := v % 256) (k := cnt) (by omega) (by omega) h1
    refine ⟨_, _, rfl, ?_, fun k => if k = cnt then v else nv k, hnu, fun k hk hk7 => ?_, htg⟩
    · rw [hu]
      have hle : 2 ^ (8 * (if cnt + 1 < 7 then cnt + 1 else 7)) = 2 ^ (8 * cnt) * 256 := by
        rw [show (if cnt + 1 < 7 then cnt + 1 else 7) = cnt + 1 by split <;> omega, Nat.mul_succ, Nat.pow_add]
      rw [hle]
      have : 2 ^ (8 * cnt) * (v % 256) ≤ 2 ^ (8 * cnt) * 255 := Nat.mul_le_mul_left _ (by omega)
      omega
    · show _ = (if k = cnt then v else nv k) % 256
      rw [hu]
      by_cases e : k = cnt
      · subst e
        rw [if_pos rfl, bN_top (by omega) h1]
      · rw [if_neg e, bN_low (by omega)]
        exact h3 k (by omega) hk7
