/-! write: the landed class's block -/
def sumN (N : Nat) : Nat → Nat
  | 0 => 0
  | n + 1 => sumN N n + bN N n
theorem bN_lt (N k : Nat) : bN N k < 256 := Nat.mod_lt _ (by omega)
theorem sumN_le (N : Nat) : ∀ n, sumN N n ≤ 256 * n
  | 0 => Nat.le_refl 0
  | n + 1 => by
    have h1 := sumN_le N n
    have h2 := bN_lt N n
    show sumN N n + bN N n ≤ 256 * (n + 1)
    omega
def bW (N m k : Nat) : Nat := if k = m then sumN N m % 256 else bN N k
theorem bW_lt (N m k : Nat) : bW N m k < 256 := by
  unfold bW
  split
  · omega
  · exact bN_lt N k
def wW (N m i : Nat) : Nat := if i % 9 < 8 then bW N m (i / 9) / 2 ^ (i % 9) % 2 else sb (bW N m (i / 9)) 8 % 2
def fl (f : Nat → Int32) (A n : Nat) (g : Nat → Int32) : Nat → Int32 := fun j => if A ≤ j ∧ j < A + n then g (j - A) else f j
theorem fl_0 (f : Nat → Int32) (A : Nat) (g : Nat → Int32) : fl f A 0 g = f := by
  funext j; unfold fl; rw [if_neg (by omega)]
theorem fl_s (f : Nat → Int32) (A n : Nat) (g : Nat → Int32) : upd (fl f A n g) (A + n) (g n) = fl f A (n + 1) g := by
  funext j
  unfold upd fl
  by_cases e : j = A + n
  · subst e; rw [if_pos rfl, if_pos (by omega), Nat.add_sub_cancel_left]
  · rw [if_neg e]
    by_cases c : A ≤ j ∧ j < A + n
    · rw [if_pos c, if_pos (by omega)]
    · rw [if_neg c, if_neg (by omega)]
theorem fl_in {f : Nat → Int32} {A n : Nat} {g : Nat → Int32} {i : Nat} (h : i < n) : fl f A n g (A + i) = g i := by
  unfold fl; rw [if_pos (by omega), Nat.add_sub_cancel_left]
theorem fl_out {f : Nat → Int32} {A n : Nat} {g : Nat → Int32} {j : Nat} (h : j < A ∨ A + n ≤ j) : fl f A n g j = f j := by
  unfold fl; rw [if_neg (by omega)]
theorem c_wb_L {wr : Nat → Int32} {A v : Nat} (hA : A + 9 ≤ 2464) (hv : v < 256) : ∀ (d fu n : Nat), n + d = 8 → d < fu →
    den_X4_writeByte_L2 (nI A) (nI v) fu (nI n) (fl wr A n (fun i => nI (v / 2 ^ i % 2))) = some (fl wr A 8 (fun i => nI (v / 2 ^ i % 2))) := by
  intro d
  induction d with
  | zero =>
    intro fu n hn hf
    cases fu with
    | zero => omega
    | succ fu =>
      have : n = 8 := by omega
      subst this
      rw [den_X4_writeByte_L2, if_pos (show (8 : Int32) ≤ nI 8 by decide)]
  | succ d ih =>
    intro fu n hn hf
    cases fu with
    | zero => omega
    | succ fu =>
      rw [den_X4_writeByte_L2, if_neg (show ¬ (8 : Int32) ≤ nI n from nI_ge (b := 8) (by omega) (by omega)), nI_add, gdI (by omega) (by omega), nI_clamp (by omega), ushrJ (by omega) (by omega), li1, and1, nI_add, fl_s wr A n (fun i => nI (v / 2 ^ i % 2))]
      exact ih fu (n + 1) (by omega) (by omega)
theorem c_wbyte {wr : Nat → Int32} {A v : Nat} (hA : A + 9 ≤ 2464) (hv : v < 256) : ∃ wr', den_X4_writeByte wr (nI A) (nI v) = some wr' ∧ (∀ i, i < 9 → wr' (A + i) = nI (if i < 8 then v / 2 ^ i % 2 else sb v 8 % 2)) ∧ ∀ j, (j < A ∨ A + 9 ≤ j) → wr' j = wr j := by
  have h := c_wb_L (wr := wr) hA hv 8 FU 0 (by omega) (by rw [FU_eq]; omega)
  rw [fl_0, show nI 0 = (0 : Int32) from rfl] at h
  unfold den_X4_writeByte
  rw [h, bnd_s, c_bc hv, bnd_s, li8, nI_add, gdI (by omega) (by omega), nI_clamp (by omega), li1, and1]
  refine ⟨_, rfl, fun i hi => ?_, fun j hj => ?_⟩
  · by_cases e : i = 8
    · subst e; rw [pk_us, if_neg (by omega)]
    · rw [pk_un (by omega), fl_in (by omega), if_pos (by omega)]
  · rw [pk_un (by omega), fl_out (by omega)]
theorem c_wt_L {x : Int64} {A m : Nat} (hm : m ≤ 7) (hA : A + 9 * (m + 1) ≤ 2464) : ∀ (d fu k : Nat) (wr : Nat → Int32), k + d = m → d < fu →
    ∃ wr', den_X4_writeTelling_L6 (nI A) (nI m) x fu (nI (sumN (uN x) k)) (nI k) wr = some (nI (sumN (uN x) m), wr') ∧ (∀ i, 9 * k ≤ i → i < 9 * m → wr' (A + i) = nI (wW (uN x) m i)) ∧ ∀ j, (j < A + 9 * k ∨ A + 9 * m ≤ j) → wr' j = wr j := by
  intro d
  induction d with
  | zero =>
    intro fu k wr hk hf
    cases fu with
    | zero => omega
    | succ fu =>
      have : k = m := by omega
      subst this
      rw [den_X4_writeTelling_L6, if_pos (nI_le (Nat.le_refl _) (by omega))]
      exact ⟨wr, rfl, fun i h1 h2 => by omega, fun j _ => rfl⟩
  | succ d ih =>
    intro fu k wr hk hf
    cases fu with
    | zero => omega
    | succ fu =>
      obtain ⟨w1, e1, e2, e3⟩ := c_wbyte (wr := wr) (A := A + k * 9) (v := bN (uN x) k) (by omega) (bN_lt _ _)
      obtain ⟨w2, f1, f2, f3⟩ := ih fu (k + 1) w1 (by omega) (by omega)
      refine ⟨w2, ?_, fun i h1 h2 => ?_, fun j hj => ?_⟩
      · rw [den_X4_writeTelling_L6, if_neg (nI_ge (by omega) (by omega)), li8, pk_mul, low8, Nat.mul_comm k 8, uN_shr8k x (by omega), nm_d, li9, pk_mul, nI_add, show uN x / 2 ^ (8 * k) % 256 = bN (uN x) k from rfl, e1, bnd_s, nI_add, li1, nI_add]
        exact f1
      · by_cases c : i < 9 * (k + 1)
        · rw [f3 _ (Or.inl (by omega)), show A + i = A + k * 9 + (i - 9 * k) by omega, e2 _ (by omega)]
          unfold wW bW
          rw [show i / 9 = k by omega, show i % 9 = i - 9 * k by omega, if_neg (show ¬ k = m by omega)]
        · exact f2 i (by omega) h2
      · rw [f3 j (by omega), e3 j (by omega)]
theorem c_wtell {x : Int64} {A m : Nat} (hm : m ≤ 7) (hA : A + 9 * (m + 1) ≤ 2464) (wr : Nat → Int32) : ∃ wr', den_X4_writeTelling wr (nI A) (nI m) x = some wr' ∧ (∀ i, i < 9 * (m + 1) → wr' (A + i) = nI (wW (uN x) m i)) ∧ ∀ j, (j < A ∨ A + 9 * (m + 1) ≤ j) → wr' j = wr j := by
  obtain ⟨w1, e1, e2, e3⟩ := c_wt_L (x := x) hm hA m FU 0 wr (by omega) (by rw [FU_eq]; omega)
  obtain ⟨w2, f1, f2, f3⟩ := c_wbyte (wr := w1) (A := A + m * 9) (v := sumN (uN x) m % 256) (by omega) (by omega)
  rw [show nI (sumN (uN x) 0) = (0 : Int32) from rfl, show nI 0 = (0 : Int32) from rfl] at e1
  refine ⟨w2, ?_, fun i hi => ?_, fun j hj => ?_⟩
  · unfold den_X4_writeTelling
    rw [e1, bnd_s, li9, pk_mul, nI_add, show (nI (sumN (uN x) m), w1).1 &&& (255 : Int32) = nI (sumN (uN x) m % 256) from and255 _, f1, bnd_s]
  · by_cases c : i < 9 * m
    · rw [f3 _ (Or.inl (by omega)), e2 i (by omega) c]
    · rw [show A + i = A + m * 9 + (i - 9 * m) by omega, f2 _ (by omega)]
      unfold wW bW
      rw [show i / 9 = m by omega, show i % 9 = i - 9 * m by omega, if_pos rfl]
  · rw [f3 j (by omega), e3 j (by omega)]
theorem c_two {x : Int64} {n F m T : Nat} {fi : Nat → Int32} (hn : n < 2 ^ 31) (hfi : fi n = nI F) (hm : m ≤ 7) (hT : T = 4 + 9 * (m + 1)) (hF : F + 2 * T ≤ 2464) (wr : Nat → Int32) : ∃ wr', den_X4_appendBlock_L107 (nI m) x (nI n) fi (nI T) FU (0 : Int32) wr = some wr' ∧ (∀ t i, t < 2 → i < 9 * (m + 1) → wr' (F + t * T + 4 + i) = nI (wW (uN x) m i)) ∧ ∀ j, j < F → wr' j = wr j := by
  obtain ⟨w1, e1, e2, e3⟩ := c_wtell (x := x) (A := F + 0 * T + 4) hm (by omega) wr
  obtain ⟨w2, f1, f2, f3⟩ := c_wtell (x := x) (A := F + 1 * T + 4) hm (by omega) w1
  have hgen : ∀ fu, den_X4_appendBlock_L107 (nI m) x (nI n) fi (nI T) (fu + 3) (0 : Int32) wr = some w2 := by
    intro fu
    rw [den_X4_appendBlock_L107, if_neg (show ¬ (2 : Int32) ≤ 0 by decide), nI_clamp hn, hfi, show (0 : Int32) = nI 0 from rfl, pk_mul, nI_add, li4, nI_add, e1, bnd_s, li1, nI_add]
    rw [den_X4_appendBlock_L107, if_neg (show ¬ (2 : Int32) ≤ nI (0 + 1) by decide), nI_clamp hn, hfi, pk_mul, nI_add, li4, nI_add, show 0 + 1 = 1 from rfl, f1, bnd_s, li1, nI_add]
    rw [den_X4_appendBlock_L107, if_pos (show (2 : Int32) ≤ nI (1 + 1) by decide)]
  refine ⟨w2, by rw [FU_eq]; exact hgen 39997, fun t i ht hi => ?_, fun j hj => ?_⟩
  · have ht2 : t = 0 ∨ t = 1 := by omega
    rcases ht2 with q | q <;> subst q
    · rw [f3 _ (Or.inl (by omega)), e2 i hi]
    · exact f2 i hi
  · rw [f3 j (by omega), e3 j (by omega)]
theorem c_fill {se : Nat → Int32} {F E : Nat} {vo ba : Nat → Int32} (hE : F + E ≤ 2464) : ∀ (d fu n : Nat), n + d = E → d < fu →
    den_X4_appendBlock_L67 se (nI (F + E)) fu (nI (F + n)) (fl vo F n (fun _ => se 0)) (fl ba F n (fun _ => 0)) = some (fl vo F E (fun _ => se 0), fl ba F E (fun _ => 0)) := by
  intro d
  induction d with
  | zero =>
    intro fu n hn hf
    cases fu with
    | zero => omega
    | succ fu =>
      have : n = E := by omega
      subst this
      rw [den_X4_appendBlock_L67, if_pos (nI_le (Nat.le_refl _) (by omega))]
  | succ d ih =>
    intro fu n hn hf
    cases fu with
    | zero => omega
    | succ fu =>
      rw [den_X4_appendBlock_L67, if_neg (nI_ge (by omega) (by omega)), gdI (by omega) (by omega), gdI (by omega) (by omega), nI_clamp (by omega), fl_s vo F n (fun _ => se 0), fl_s ba F n (fun _ => 0), li1, nI_add]
      exact ih fu (n + 1) (by omega) (by omega)
theorem c_append {se na un ma fi vo ba wr st : Nat → Int32} {bl : Int32} (r : RT se bl na un ma fi vo ba wr st) (hn : nB st < 16) {m : Nat} (hm1 : 1 ≤ m) (hm : m ≤ 7) (p1 p2 : Int32) (x : Int64) :
    ∃ wr', den_X4_appendBlock se bl na un ma fi vo ba wr p1 p2 (nI m) x = some (nI (nB st), nI (nB st + 1), upd na (nB st) p1, upd un (nB st) p2, upd ma (nB st) (nI m), upd fi (nB st + 1) (nI (FF st (nB st) + (2 * (4 + 9 * (m + 1)) + 2))), fl vo (FF st (nB st)) (2 * (4 + 9 * (m + 1)) + 2) (fun _ => se 0), fl ba (FF st (nB st)) (2 * (4 + 9 * (m + 1)) + 2) (fun _ => 0), wr') ∧ (∀ t i, t < 2 → i < 9 * (m + 1) → wr' (FF st (nB st) + t * (4 + 9 * (m + 1)) + 4 + i) = nI (wW (uN x) m i)) ∧ ∀ j, j < FF st (nB st) → wr' j = wr j := by
  have w := r.1
  have hF := FF_le w (b := nB st) (Nat.le_refl _)
  have hfi := r.fi (b := nB st) (Nat.le_refl _)
  obtain ⟨wr', e1, e2, e3⟩ := c_two (x := x) (n := nB st) (fi := fi) (by omega) hfi hm rfl (by omega) wr
  have hf := c_fill (se := se) (F := FF st (nB st)) (E := 2 * (4 + 9 * (m + 1)) + 2) (vo := vo) (ba := ba) (by omega) (2 * (4 + 9 * (m + 1)) + 2) FU 0 (by omega) (by rw [FU_eq]; omega)
  rw [fl_0, fl_0, show nI (FF st (nB st) + 0) = nI (FF st (nB st)) from rfl] at hf
  refine ⟨wr', ?_, e2, e3⟩
  have et : den_X4_tellingCells (upd ma (nB st) (nI m)) (nI (nB st)) = some (nI (4 + 9 * (m + 1))) := by
    unfold den_X4_tellingCells
    rw [gdI (by omega) (by omega), nI_clamp (by omega), pk_us, li1, nI_add, li9, pk_mul, li4, nI_add, Nat.mul_comm 9]
  unfold den_X4_appendBlock
  rw [r.blI, gdI (by omega) (by omega), gdI (by omega) (by omega), gdI (by omega) (by omega), gdI (by omega) (by omega), nI_clamp (by omega), et, bnd_s, hfi, li2, pk_mul, nI_add, nI_add, nm_d, show FF st (nB st) + 2 * (4 + 9 * (m + 1)) + 2 = FF st (nB st) + (2 * (4 + 9 * (m + 1)) + 2) by omega, hf, bnd_s, e1, bnd_s, li1, nI_add, gdI (by omega) (by omega), nI_clamp (by omega)]
