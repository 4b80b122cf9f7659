set_option linter.unusedVariables false
/-! words of the plain functions that are read off the bytecode, and their rows -/
def gd {α : Type} (b : Bool) (x : Option α) : Option α := if b = true then x else none
theorem gd_some {α : Type} {b : Bool} {x : Option α} {y : α} (h : gd b x = some y) : b = true ∧ x = some y := by
  unfold gd at h
  by_cases c : b = true
  · rw [if_pos c] at h; exact ⟨c, h⟩
  · rw [if_neg c] at h; cases h
def bnd {α β : Type} (x : Option α) (f : α → Option β) : Option β := match x with
  | none => none
  | some a => f a
theorem bnd_some {α β : Type} {x : Option α} {f : α → Option β} {y : β} (h : bnd x f = some y) : ∃ a, x = some a ∧ f a = some y := by
  cases x with
  | none => cases h
  | some a => exact ⟨a, rfl, h⟩
def nm {α β : Type} (a : α) (f : α → β) : β := f a
theorem nm_some {α β : Type} {a x : α} {f : α → Option β} {y : β} (e : x = a) (h : nm a f = some y) : f x = some y := by
  subst e; exact h
theorem nm_at {α β : Type} {a x : α} {f : α → Option β} {y : β} (e : a = x) (h : nm a f = some y) : f x = some y := by
  subst e; exact h
theorem nm_ex {α β : Type} {a : α} {f : α → Option β} {y : β} (h : nm a f = some y) : ∃ x, x = a ∧ f x = some y := ⟨a, rfl, h⟩
theorem jx1 {α γ : Type} {J f : α → Option γ} (e : J = f) {a : α} {y : Option γ} (h : J a = y) : f a = y := by subst e; exact h
theorem jx2 {α β γ : Type} {J f : α → β → Option γ} (e : J = f) {a : α} {b : β} {y : Option γ} (h : J a b = y) : f a b = y := by subst e; exact h
theorem jx3 {α β δ γ : Type} {J f : α → β → δ → Option γ} (e : J = f) {a : α} {b : β} {d : δ} {y : Option γ} (h : J a b d = y) : f a b d = y := by subst e; exact h
theorem jx4 {α β δ ε γ : Type} {J f : α → β → δ → ε → Option γ} (e : J = f) {a : α} {b : β} {d : δ} {g : ε} {y : Option γ} (h : J a b d g = y) : f a b d g = y := by subst e; exact h
theorem ite_t {α : Type} {c : Prop} [Decidable c] {A B : Option α} {y : α} (h : c) (hd : (if c then A else B) = some y) : A = some y := by
  rw [if_pos h] at hd; exact hd
theorem ite_f {α : Type} {c : Prop} [Decidable c] {A B : Option α} {y : α} (h : ¬ c) (hd : (if c then A else B) = some y) : B = some y := by
  rw [if_neg h] at hd; exact hd
theorem no_some {α : Type} {y : α} {P : Prop} (h : (none : Option α) = some y) : P := by cases h
def inb (i : Int32) (n : Nat) : Bool := decide (¬ i < 0) && decide (i.toNatClampNeg < n)
theorem inb_in {i : Int32} {n : Nat} (h : inb i n = true) : vp_in i n := by
  unfold inb at h
  rw [Bool.and_eq_true] at h
  have h1 := of_decide_eq_true h.1
  have h2 := of_decide_eq_true h.2
  exact fun q => q.elim h1 (fun q => Nat.not_le.mpr h2 q)
def isZ (v : Int32) : Bool := decide (v = 0) || decide (v = 1)
theorem z_nar {v : Int32} (h : isZ v = true) : narrow .boolean (.int v) = .int v := by
  unfold isZ at h
  rw [Bool.or_eq_true] at h
  rcases h with h | h
  · have := of_decide_eq_true h; subst this; rfl
  · have := of_decide_eq_true h; subst this; rfl
theorem z_fit {v : Int32} (h : isZ v = true) : fits .boolean (.int v) = true := by
  unfold isZ at h
  rw [Bool.or_eq_true] at h
  rcases h with h | h
  · have := of_decide_eq_true h; subst this; rfl
  · have := of_decide_eq_true h; subst this; rfl
def isC (v : Int32) : Bool := decide (vp_nar .char v = v) && fits .char (.int v)
theorem c_nar {v : Int32} (h : isC v = true) : narrow .char (.int v) = .int v := by
  unfold isC at h
  rw [Bool.and_eq_true] at h
  have h1 := of_decide_eq_true h.1
  show Value.int (vp_nar .char v) = _
  rw [h1]
theorem c_fit {v : Int32} (h : isC v = true) : fits .char (.int v) = true := by
  unfold isC at h
  rw [Bool.and_eq_true] at h
  exact h.2
def cpb (n : Int32) (k : Nat) : Bool := decide (¬ n < 0) && decide (n.toNatClampNeg ≤ k)
theorem cpb_0 {n : Int32} {k : Nat} (h : cpb n k = true) : ¬ n < 0 := by
  unfold cpb at h
  rw [Bool.and_eq_true] at h
  exact of_decide_eq_true h.1
theorem cpb_1 {n : Int32} {k : Nat} (h : cpb n k = true) : (0 : Int32).toNatClampNeg + n.toNatClampNeg ≤ k := by
  unfold cpb at h
  rw [Bool.and_eq_true] at h
  have h2 := of_decide_eq_true h.2
  have h0 : (0 : Int32).toNatClampNeg = 0 := by decide
  rw [h0]; omega
theorem FU_ex : ∃ n : Nat, n = 40000 := ⟨_, rfl⟩
/-- how often a loop may go round: a number that no row unfolds -/
noncomputable def FU : Nat := Classical.choose FU_ex
theorem FU_eq : FU = 40000 := Classical.choose_spec FU_ex
/-- what a tape holds: settings, blocks, names, unders, manys, firsts, volumes, bad, written -/
abbrev TV : Type := (Nat → Int32) × Int32 × (Nat → Int32) × (Nat → Int32) × (Nat → Int32) × (Nat → Int32) × (Nat → Int32) × (Nat → Int32) × (Nat → Int32)
/-! links between nest mates: they are premises of the claim; every contract hands them on -/
def nx_ws : List Cond := [.fieldLinkNest RX6 62 "CassetteTones$Tape" "settings" "[I" "CassetteTones", .fieldLinkNest RX6 77 "CassetteTones$Tape" "blocks" "I" "CassetteTones", .fieldLinkNest RX6 97 "CassetteTones$Tape" "names" "[I" "CassetteTones", .fieldLinkNest RX6 104 "CassetteTones$Tape" "unders" "[I" "CassetteTones", .fieldLinkNest RX0 27 "CassetteTones$Tape" "manys" "[I" "CassetteTones", .fieldLinkNest RX6 107 "CassetteTones$Tape" "manys" "[I" "CassetteTones", .fieldLinkNest RX5 30 "CassetteTones$Tape" "volumes" "[I" "CassetteTones", .fieldLinkNest RX6 154 "CassetteTones$Tape" "volumes" "[I" "CassetteTones", .fieldLinkNest RX6 157 "CassetteTones$Tape" "bad" "[I" "CassetteTones", .fieldLinkNest RX0 52 "CassetteTones$Telling" "many" "I" "CassetteTones", .fieldLinkNest RX0 67 "CassetteTones$Telling" "values" "[I" "CassetteTones", .fieldLinkNest RX6 151 "CassetteTones$Telling" "values" "[I" "CassetteTones", .fieldLinkNest RX6 183 "CassetteTones$Pad" "length" "I" "CassetteTones", .fieldLinkNest RX6 186 "CassetteTones$History" "size" "I" "CassetteTones", .methodLinkNest RX6 11 yX4_init "CassetteTones", .methodLinkNest RX6 18 yX0_init "CassetteTones", .methodLinkNest RX0 11 yX5_init "CassetteTones", .methodLinkNest RX6 25 yX2_init "CassetteTones", .methodLinkNest RX6 32 yX1_init "CassetteTones", .methodLinkNest RX1 17 yX4_init "CassetteTones", .methodLinkNest RX6 39 yX3_init "CassetteTones", .methodLinkNest RX3 9 yX4_init "CassetteTones", .methodLinkNest RX6 55 yX1_keep "CassetteTones", .methodLinkNest RX1 29 yX4_copyFrom "CassetteTones", .methodLinkNest RX4 59 yX6_valueAt "CassetteTones", .methodLinkNest RX6 59 yX4_setting "CassetteTones", .methodLinkNest RX6 69 yX4_errorOfBlock "CassetteTones", .methodLinkNest RX6 73 yX4_appendBlock "CassetteTones", .methodLinkNest RX4 67 yX6_setValue "CassetteTones", .methodLinkNest RX6 81 yX4_errorOfFading "CassetteTones", .methodLinkNest RX6 84 yX4_fadeCells "CassetteTones", .methodLinkNest RX6 87 yX4_hasCell "CassetteTones", .methodLinkNest RX6 91 yX4_spoilCell "CassetteTones", .methodLinkNest RX6 94 yX4_hasBlock "CassetteTones", .methodLinkNest RX6 110 yX4_firstOf "CassetteTones", .methodLinkNest RX6 134 yX0_readBlock "CassetteTones", .methodLinkNest RX0 21 yX4_firstOf "CassetteTones", .methodLinkNest RX0 31 yX6_valueAt "CassetteTones", .methodLinkNest RX0 35 yX5_readCells "CassetteTones", .methodLinkNest RX5 35 yX6_valueAt "CassetteTones", .methodLinkNest RX5 51 yX4_toldAt "CassetteTones", .methodLinkNest RX5 55 yX6_setValue "CassetteTones", .methodLinkNest RX0 39 yX4_tellingCells "CassetteTones", .methodLinkNest RX6 138 yX0_telling "CassetteTones", .methodLinkNest RX6 250 yX5_stateBy "CassetteTones", .methodLinkNest RX6 195 yX0_wayBy "CassetteTones", .methodLinkNest RX0 42 yX5_stateBy "CassetteTones", .methodLinkNest RX0 49 yX5_isLost "CassetteTones", .methodLinkNest RX0 64 yX5_isByteWhole "CassetteTones", .methodLinkNest RX0 60 yX5_tellsSum "CassetteTones", .methodLinkNest RX6 120 yX4_depthOf "CassetteTones", .methodLinkNest RX6 123 yX4_counterOf "CassetteTones", .methodLinkNest RX6 130 yX0_bytesBy "CassetteTones", .methodLinkNest RX6 142 yX5_isLost "CassetteTones", .methodLinkNest RX6 147 yX5_isByteWhole "CassetteTones", .methodLinkNest RX6 160 yX4_bitAt "CassetteTones", .methodLinkNest RX6 163 yX4_blockAt "CassetteTones", .methodLinkNest RX6 166 yX4_partAt "CassetteTones", .methodLinkNest RX6 192 yX4_nearerBlocks "CassetteTones", .methodLinkNest RX6 198 yX4_tellingCells "CassetteTones", .methodLinkNest RX6 169 yX4_cells "CassetteTones", .methodLinkNest RX6 177 yX4_silentCells "CassetteTones", .methodLinkNest RX6 180 yX4_badCells "CassetteTones"]
def isNest : Cond → Bool
  | .fieldLinkNest .. => true
  | .methodLinkNest .. => true
  | _ => false
theorem nx_all : nx_ws.all isNest = true := by decide +kernel
def NX (U : State) : Prop := ∀ w ∈ nx_ws, va_Nw w U
theorem nx_tab {w : Cond} (h : w ∈ nx_ws) : w.onTables = true := by
  have h1 := List.all_eq_true.mp nx_all w h
  cases w <;> first | rfl | cases h1
theorem NX_same {u U : State} (h : u.vm = U.vm) (hN : NX u) : NX U := fun w hw => va_Nw.same (nx_tab hw) h (hN w hw)
theorem NX_warm {s U : State} (hW : s.WarmedH U.vm) (hN : NX s) : NX U := fun w hw => by
  have h1 := List.all_eq_true.mp nx_all w hw
  have h2 := hN w hw
  cases w with
  | fieldLinkNest a i b n d h => exact va_Nw.warmF hW h2
  | methodLinkNest a i x h => exact va_Nw.warmM hW h2
  | _ => cases h1
theorem nx_0 {s : State} {args : Array Value} (h : NX s) : (Cond.fieldLinkNest RX6 62 "CassetteTones$Tape" "settings" "[I" "CassetteTones").before args s = true := va_Nw.use rfl (h _ (List.mem_of_getElem? (i := 0) rfl))
theorem nx_1 {s : State} {args : Array Value} (h : NX s) : (Cond.fieldLinkNest RX6 77 "CassetteTones$Tape" "blocks" "I" "CassetteTones").before args s = true := va_Nw.use rfl (h _ (List.mem_of_getElem? (i := 1) rfl))
theorem nx_2 {s : State} {args : Array Value} (h : NX s) : (Cond.fieldLinkNest RX6 97 "CassetteTones$Tape" "names" "[I" "CassetteTones").before args s = true := va_Nw.use rfl (h _ (List.mem_of_getElem? (i := 2) rfl))
theorem nx_3 {s : State} {args : Array Value} (h : NX s) : (Cond.fieldLinkNest RX6 104 "CassetteTones$Tape" "unders" "[I" "CassetteTones").before args s = true := va_Nw.use rfl (h _ (List.mem_of_getElem? (i := 3) rfl))
theorem nx_4 {s : State} {args : Array Value} (h : NX s) : (Cond.fieldLinkNest RX0 27 "CassetteTones$Tape" "manys" "[I" "CassetteTones").before args s = true := va_Nw.use rfl (h _ (List.mem_of_getElem? (i := 4) rfl))
theorem nx_5 {s : State} {args : Array Value} (h : NX s) : (Cond.fieldLinkNest RX6 107 "CassetteTones$Tape" "manys" "[I" "CassetteTones").before args s = true := va_Nw.use rfl (h _ (List.mem_of_getElem? (i := 5) rfl))
theorem nx_6 {s : State} {args : Array Value} (h : NX s) : (Cond.fieldLinkNest RX5 30 "CassetteTones$Tape" "volumes" "[I" "CassetteTones").before args s = true := va_Nw.use rfl (h _ (List.mem_of_getElem? (i := 6) rfl))
theorem nx_7 {s : State} {args : Array Value} (h : NX s) : (Cond.fieldLinkNest RX6 154 "CassetteTones$Tape" "volumes" "[I" "CassetteTones").before args s = true := va_Nw.use rfl (h _ (List.mem_of_getElem? (i := 7) rfl))
theorem nx_8 {s : State} {args : Array Value} (h : NX s) : (Cond.fieldLinkNest RX6 157 "CassetteTones$Tape" "bad" "[I" "CassetteTones").before args s = true := va_Nw.use rfl (h _ (List.mem_of_getElem? (i := 8) rfl))
theorem nx_9 {s : State} {args : Array Value} (h : NX s) : (Cond.fieldLinkNest RX0 52 "CassetteTones$Telling" "many" "I" "CassetteTones").before args s = true := va_Nw.use rfl (h _ (List.mem_of_getElem? (i := 9) rfl))
theorem nx_10 {s : State} {args : Array Value} (h : NX s) : (Cond.fieldLinkNest RX0 67 "CassetteTones$Telling" "values" "[I" "CassetteTones").before args s = true := va_Nw.use rfl (h _ (List.mem_of_getElem? (i := 10) rfl))
theorem nx_11 {s : State} {args : Array Value} (h : NX s) : (Cond.fieldLinkNest RX6 151 "CassetteTones$Telling" "values" "[I" "CassetteTones").before args s = true := va_Nw.use rfl (h _ (List.mem_of_getElem? (i := 11) rfl))
theorem nx_12 {s : State} {args : Array Value} (h : NX s) : (Cond.fieldLinkNest RX6 183 "CassetteTones$Pad" "length" "I" "CassetteTones").before args s = true := va_Nw.use rfl (h _ (List.mem_of_getElem? (i := 12) rfl))
theorem nx_13 {s : State} {args : Array Value} (h : NX s) : (Cond.fieldLinkNest RX6 186 "CassetteTones$History" "size" "I" "CassetteTones").before args s = true := va_Nw.use rfl (h _ (List.mem_of_getElem? (i := 13) rfl))
theorem nxw_14 {s : State} (h : NX s) : va_Nw (.methodLinkNest RX6 11 yX4_init "CassetteTones") s := h _ (List.mem_of_getElem? (i := 14) rfl)
theorem nxw_15 {s : State} (h : NX s) : va_Nw (.methodLinkNest RX6 18 yX0_init "CassetteTones") s := h _ (List.mem_of_getElem? (i := 15) rfl)
theorem nxw_16 {s : State} (h : NX s) : va_Nw (.methodLinkNest RX0 11 yX5_init "CassetteTones") s := h _ (List.mem_of_getElem? (i := 16) rfl)
theorem nxw_17 {s : State} (h : NX s) : va_Nw (.methodLinkNest RX6 25 yX2_init "CassetteTones") s := h _ (List.mem_of_getElem? (i := 17) rfl)
theorem nxw_18 {s : State} (h : NX s) : va_Nw (.methodLinkNest RX6 32 yX1_init "CassetteTones") s := h _ (List.mem_of_getElem? (i := 18) rfl)
theorem nxw_19 {s : State} (h : NX s) : va_Nw (.methodLinkNest RX1 17 yX4_init "CassetteTones") s := h _ (List.mem_of_getElem? (i := 19) rfl)
theorem nxw_20 {s : State} (h : NX s) : va_Nw (.methodLinkNest RX6 39 yX3_init "CassetteTones") s := h _ (List.mem_of_getElem? (i := 20) rfl)
theorem nxw_21 {s : State} (h : NX s) : va_Nw (.methodLinkNest RX3 9 yX4_init "CassetteTones") s := h _ (List.mem_of_getElem? (i := 21) rfl)
theorem nxw_22 {s : State} (h : NX s) : va_Nw (.methodLinkNest RX6 55 yX1_keep "CassetteTones") s := h _ (List.mem_of_getElem? (i := 22) rfl)
theorem nxw_23 {s : State} (h : NX s) : va_Nw (.methodLinkNest RX1 29 yX4_copyFrom "CassetteTones") s := h _ (List.mem_of_getElem? (i := 23) rfl)
theorem nxw_24 {s : State} (h : NX s) : va_Nw (.methodLinkNest RX4 59 yX6_valueAt "CassetteTones") s := h _ (List.mem_of_getElem? (i := 24) rfl)
theorem nxw_25 {s : State} (h : NX s) : va_Nw (.methodLinkNest RX6 59 yX4_setting "CassetteTones") s := h _ (List.mem_of_getElem? (i := 25) rfl)
theorem nxw_26 {s : State} (h : NX s) : va_Nw (.methodLinkNest RX6 69 yX4_errorOfBlock "CassetteTones") s := h _ (List.mem_of_getElem? (i := 26) rfl)
theorem nxw_27 {s : State} (h : NX s) : va_Nw (.methodLinkNest RX6 73 yX4_appendBlock "CassetteTones") s := h _ (List.mem_of_getElem? (i := 27) rfl)
theorem nxw_28 {s : State} (h : NX s) : va_Nw (.methodLinkNest RX4 67 yX6_setValue "CassetteTones") s := h _ (List.mem_of_getElem? (i := 28) rfl)
theorem nxw_29 {s : State} (h : NX s) : va_Nw (.methodLinkNest RX6 81 yX4_errorOfFading "CassetteTones") s := h _ (List.mem_of_getElem? (i := 29) rfl)
theorem nxw_30 {s : State} (h : NX s) : va_Nw (.methodLinkNest RX6 84 yX4_fadeCells "CassetteTones") s := h _ (List.mem_of_getElem? (i := 30) rfl)
theorem nxw_31 {s : State} (h : NX s) : va_Nw (.methodLinkNest RX6 87 yX4_hasCell "CassetteTones") s := h _ (List.mem_of_getElem? (i := 31) rfl)
theorem nxw_32 {s : State} (h : NX s) : va_Nw (.methodLinkNest RX6 91 yX4_spoilCell "CassetteTones") s := h _ (List.mem_of_getElem? (i := 32) rfl)
theorem nxw_33 {s : State} (h : NX s) : va_Nw (.methodLinkNest RX6 94 yX4_hasBlock "CassetteTones") s := h _ (List.mem_of_getElem? (i := 33) rfl)
theorem nxw_34 {s : State} (h : NX s) : va_Nw (.methodLinkNest RX6 110 yX4_firstOf "CassetteTones") s := h _ (List.mem_of_getElem? (i := 34) rfl)
theorem nxw_35 {s : State} (h : NX s) : va_Nw (.methodLinkNest RX6 134 yX0_readBlock "CassetteTones") s := h _ (List.mem_of_getElem? (i := 35) rfl)
theorem nxw_36 {s : State} (h : NX s) : va_Nw (.methodLinkNest RX0 21 yX4_firstOf "CassetteTones") s := h _ (List.mem_of_getElem? (i := 36) rfl)
theorem nxw_37 {s : State} (h : NX s) : va_Nw (.methodLinkNest RX0 31 yX6_valueAt "CassetteTones") s := h _ (List.mem_of_getElem? (i := 37) rfl)
theorem nxw_38 {s : State} (h : NX s) : va_Nw (.methodLinkNest RX0 35 yX5_readCells "CassetteTones") s := h _ (List.mem_of_getElem? (i := 38) rfl)
theorem nxw_39 {s : State} (h : NX s) : va_Nw (.methodLinkNest RX5 35 yX6_valueAt "CassetteTones") s := h _ (List.mem_of_getElem? (i := 39) rfl)
theorem nxw_40 {s : State} (h : NX s) : va_Nw (.methodLinkNest RX5 51 yX4_toldAt "CassetteTones") s := h _ (List.mem_of_getElem? (i := 40) rfl)
theorem nxw_41 {s : State} (h : NX s) : va_Nw (.methodLinkNest RX5 55 yX6_setValue "CassetteTones") s := h _ (List.mem_of_getElem? (i := 41) rfl)
theorem nxw_42 {s : State} (h : NX s) : va_Nw (.methodLinkNest RX0 39 yX4_tellingCells "CassetteTones") s := h _ (List.mem_of_getElem? (i := 42) rfl)
theorem nxw_43 {s : State} (h : NX s) : va_Nw (.methodLinkNest RX6 138 yX0_telling "CassetteTones") s := h _ (List.mem_of_getElem? (i := 43) rfl)
theorem nxw_44 {s : State} (h : NX s) : va_Nw (.methodLinkNest RX6 250 yX5_stateBy "CassetteTones") s := h _ (List.mem_of_getElem? (i := 44) rfl)
theorem nxw_45 {s : State} (h : NX s) : va_Nw (.methodLinkNest RX6 195 yX0_wayBy "CassetteTones") s := h _ (List.mem_of_getElem? (i := 45) rfl)
theorem nxw_46 {s : State} (h : NX s) : va_Nw (.methodLinkNest RX0 42 yX5_stateBy "CassetteTones") s := h _ (List.mem_of_getElem? (i := 46) rfl)
theorem nxw_47 {s : State} (h : NX s) : va_Nw (.methodLinkNest RX0 49 yX5_isLost "CassetteTones") s := h _ (List.mem_of_getElem? (i := 47) rfl)
theorem nxw_48 {s : State} (h : NX s) : va_Nw (.methodLinkNest RX0 64 yX5_isByteWhole "CassetteTones") s := h _ (List.mem_of_getElem? (i := 48) rfl)
theorem nxw_49 {s : State} (h : NX s) : va_Nw (.methodLinkNest RX0 60 yX5_tellsSum "CassetteTones") s := h _ (List.mem_of_getElem? (i := 49) rfl)
theorem nxw_50 {s : State} (h : NX s) : va_Nw (.methodLinkNest RX6 120 yX4_depthOf "CassetteTones") s := h _ (List.mem_of_getElem? (i := 50) rfl)
theorem nxw_51 {s : State} (h : NX s) : va_Nw (.methodLinkNest RX6 123 yX4_counterOf "CassetteTones") s := h _ (List.mem_of_getElem? (i := 51) rfl)
theorem nxw_52 {s : State} (h : NX s) : va_Nw (.methodLinkNest RX6 130 yX0_bytesBy "CassetteTones") s := h _ (List.mem_of_getElem? (i := 52) rfl)
theorem nxw_53 {s : State} (h : NX s) : va_Nw (.methodLinkNest RX6 142 yX5_isLost "CassetteTones") s := h _ (List.mem_of_getElem? (i := 53) rfl)
theorem nxw_54 {s : State} (h : NX s) : va_Nw (.methodLinkNest RX6 147 yX5_isByteWhole "CassetteTones") s := h _ (List.mem_of_getElem? (i := 54) rfl)
theorem nxw_55 {s : State} (h : NX s) : va_Nw (.methodLinkNest RX6 160 yX4_bitAt "CassetteTones") s := h _ (List.mem_of_getElem? (i := 55) rfl)
theorem nxw_56 {s : State} (h : NX s) : va_Nw (.methodLinkNest RX6 163 yX4_blockAt "CassetteTones") s := h _ (List.mem_of_getElem? (i := 56) rfl)
theorem nxw_57 {s : State} (h : NX s) : va_Nw (.methodLinkNest RX6 166 yX4_partAt "CassetteTones") s := h _ (List.mem_of_getElem? (i := 57) rfl)
theorem nxw_58 {s : State} (h : NX s) : va_Nw (.methodLinkNest RX6 192 yX4_nearerBlocks "CassetteTones") s := h _ (List.mem_of_getElem? (i := 58) rfl)
theorem nxw_59 {s : State} (h : NX s) : va_Nw (.methodLinkNest RX6 198 yX4_tellingCells "CassetteTones") s := h _ (List.mem_of_getElem? (i := 59) rfl)
theorem nxw_60 {s : State} (h : NX s) : va_Nw (.methodLinkNest RX6 169 yX4_cells "CassetteTones") s := h _ (List.mem_of_getElem? (i := 60) rfl)
theorem nxw_61 {s : State} (h : NX s) : va_Nw (.methodLinkNest RX6 177 yX4_silentCells "CassetteTones") s := h _ (List.mem_of_getElem? (i := 61) rfl)
theorem nxw_62 {s : State} (h : NX s) : va_Nw (.methodLinkNest RX6 180 yX4_badCells "CassetteTones") s := h _ (List.mem_of_getElem? (i := 62) rfl)
/-! a contract's two ends -/
def preB (sz : Nat) (D : va_G) (ws : va_W) (tys : List (ClassId × FieldType)) (U : State) : Prop := U.heap.size = sz ∧ va_P D vwCl ws U.heap ∧ va_K D vwCl tys U ∧ va_D (fun _ => True) ws ∧ NX U
def posB (D : va_G) (ws : va_W) (tys : List (ClassId × FieldType)) (A : Nat → Prop) (t : State) : Prop := va_P D vwCl ws t.heap ∧ va_K D vwCl tys t ∧ va_D A ws
theorem preB_fb {av : List Value} {sz : Nat} {D : va_G} {ws : va_W} {tys : List (ClassId × FieldType)} : FrameBlind (va_Pc av (preB sz D ws tys)) := fun a U g mk q => by
  obtain ⟨q0, q1, qP, qK, qD, qN⟩ := q
  exact ⟨q0, q1, qP, va_K.moved (u := U) (U := U.calling g mk a) (Vm.Alike.refl U.vm) qK, qD, NX_same (u := U) (U := U.calling g mk a) rfl qN⟩
theorem preB_mk {av : List Value} {s U : State} {H : Heap} {D : va_G} {ws : va_W} {tys : List (ClassId × FieldType)} {A : Nat → Prop} (hU : U.heap = H) (hW : s.WarmedH U.vm) (hP : va_P D vwCl ws H) (hK : va_K D vwCl tys s) (hD : va_D A ws) (hN : NX s) : va_Pc av (preB H.size D ws tys) av.toArray U :=
  ⟨rfl, by rw [hU], by rw [hU]; exact hP, va_K.moved hW.alike hK, hD.weaken (fun _ _ _ _ => trivial), NX_warm hW hN⟩
theorem fm_of_map {α β : Type} {f : α → Option β} : ∀ {l : List α} {w : List β}, l.map f = w.map some → l.filterMap f = w
  | [], [], _ => rfl
  | [], _ :: _, h => by cases h
  | _ :: _, [], h => by cases h
  | a :: l, b :: w, h => by
    have h1 : f a = some b := (List.cons.inj h).1
    have h2 := fm_of_map (List.cons.inj h).2
    simp [List.filterMap_cons, h1, h2]
theorem x_join {A0 : Nat → Prop} {D : va_G} {ws wc w1 ws' : va_W} {tys : List (ClassId × FieldType)} {H H1 : Heap} {t : State} (hP : va_P D vwCl ws H) (hD : va_D A0 ws) (isC isR : List Nat) (hC : isC.map (fun i => ws[i]?) = wc.map some) (hR : isR.all (fun i => Nat.ble (i + 1) ws.length) = true) (hn : va_nd isR = true) (hdis : ∀ i ∈ isR, i ∉ isC)
    (hk : ∀ q : Nat, q < H.size → ¬ va_A wc H.size q → H1[q]? = H[q]?) (hF : ∀ q, va_A wc H.size q → A0 q) (ht : t.heap = H1) (hB : posB D w1 tys (va_A wc H.size) t) (pm : List Nat) (hpn : va_nd pm = true) (hpm : pm.map (fun i => (isR.filterMap (fun i => ws[i]?) ++ w1)[i]?) = ws'.map some) : va_P D vwCl ws' H1 ∧ va_D A0 ws' := by
  obtain ⟨hP1, -, hD1⟩ := hB
  rw [ht] at hP1
  have hRm : isR.map (fun i => ws[i]?) = (isR.filterMap (fun i => ws[i]?)).map some := by
    have h0 : ∀ (l : List Nat), l.all (fun i => Nat.ble (i + 1) ws.length) = true → l.map (fun i => ws[i]?) = (l.filterMap (fun i => ws[i]?)).map some := by
      intro l
      induction l with
      | nil => intro _; rfl
      | cons a l ih =>
        intro h
        rw [List.all_cons, Bool.and_eq_true] at h
        have ha : a < ws.length := Nat.le_of_ble_eq_true h.1
        rw [List.map_cons, List.filterMap_cons, List.getElem?_eq_getElem ha, List.map_cons, ih h.2]
    exact h0 isR hR
  obtain ⟨a, b⟩ := va_join (wr := isR.filterMap (fun i => ws[i]?)) (w1 := w1) hP hD isC isR hC hRm hn hdis hk hF hP1 hD1
  exact ⟨a.sub pm (fm_of_map hpm), b.sub pm hpn hpm⟩
section XM
variable {p : Program} {l : Launch} {e : Env} {R : Room} {s : State} {m : MethodId} {args : Array Value} {below : List Frame} {meth : Method} {c : Code} {H : Heap} {locs : List Loc} {cells slots : Nat} {Q : State → Prop}
variable {cc : ByteArray} {pc : Nat} {ls : Array Slot} {rest : List Value} {D : va_G} {cl : List vw_C} {A : Nat → Prop} {a : Nat} {tys : List (ClassId × FieldType)} {ws : va_W} {H0 : Heap}
theorem x_iald (hexec : p.tables.exec = Jvm.exec) (hb : c.code = cc) (hK : va_K D cl tys s) (hP : va_P D cl ws H) (q0 t0 : Nat) {cA : ClassId} {n : Nat} {f : Nat → Int32} (ha : ws[q0]? = some (a, .inl (cA, n, .inl f))) (ht : tys[t0]? = some (cA, .int)) {i : Int32} (hin : vp_in i n) {k : Nat} (hk : i.toNatClampNeg = k) (hdg : decode cc pc = .ok (.iaload, 1))
    (kk : W p l e R s m args below meth c H locs cells slots Q (F0 m (pc + 1) ls (.int (f k) :: rest))) : W p l e R s m args below meth c H locs cells slots Q (F0 m pc ls (.int i :: .ref a :: rest)) := by
  subst hk; exact va_iald hexec hb hK hP q0 t0 ha ht hin hdg kk
theorem x_cald (hexec : p.tables.exec = Jvm.exec) (hb : c.code = cc) (hK : va_K D cl tys s) (hP : va_P D cl ws H) (q0 t0 : Nat) {cA : ClassId} {n : Nat} {f : Nat → Int32} (ha : ws[q0]? = some (a, .inl (cA, n, .inl f))) (ht : tys[t0]? = some (cA, .char)) {i : Int32} (hin : vp_in i n) {k : Nat} (hk : i.toNatClampNeg = k) (hdg : decode cc pc = .ok (.caload, 1))
    (kk : W p l e R s m args below meth c H locs cells slots Q (F0 m (pc + 1) ls (.int (f k) :: rest))) : W p l e R s m args below meth c H locs cells slots Q (F0 m pc ls (.int i :: .ref a :: rest)) := by
  subst hk; exact va_cald hexec hb hK hP q0 t0 ha ht hin hdg kk
theorem x_zald (hexec : p.tables.exec = Jvm.exec) (hb : c.code = cc) (hK : va_K D cl tys s) (hP : va_P D cl ws H) (q0 t0 : Nat) {cA : ClassId} {n : Nat} {f : Nat → Int32} (ha : ws[q0]? = some (a, .inl (cA, n, .inl f))) (ht : tys[t0]? = some (cA, .boolean)) {i : Int32} (hin : vp_in i n) {k : Nat} (hk : i.toNatClampNeg = k) (hdg : decode cc pc = .ok (.baload, 1))
    (kk : W p l e R s m args below meth c H locs cells slots Q (F0 m (pc + 1) ls (.int (f k) :: rest))) : W p l e R s m args below meth c H locs cells slots Q (F0 m pc ls (.int i :: .ref a :: rest)) := by
  subst hk; exact va_zald hexec hb hK hP q0 t0 ha ht hin hdg kk
theorem x_iast (hexec : p.tables.exec = Jvm.exec) (hb : c.code = cc) (hK : va_K D cl tys s) (hP : va_P D cl ws H) (hD : va_D A ws) (hS : va_S A H0 H locs) (q0 t0 : Nat) {cA : ClassId} {n : Nat} {f : Nat → Int32} (ha : ws[q0]? = some (a, .inl (cA, n, .inl f))) (ht : tys[t0]? = some (cA, .int)) {i : Int32} {x : Int32} (hin : vp_in i n) {k : Nat} (hk : i.toNatClampNeg = k) (hdg : decode cc pc = .ok (.iastore, 1))
    (kk : ∀ (H1 : Heap) (locs1 : List Loc), va_P D cl (ws.set q0 (a, .inl (cA, n, .inl (upd f k x)))) H1 → va_D A (ws.set q0 (a, .inl (cA, n, .inl (upd f k x)))) → va_S A H0 H1 locs1 → W p l e R s m args below meth c H1 locs1 cells slots Q (F0 m (pc + 1) ls rest)) : W p l e R s m args below meth c H locs cells slots Q (F0 m pc ls (.int x :: .int i :: .ref a :: rest)) := by
  subst hk; exact va_iast hexec hb hK hP hD hS q0 t0 ha ht hin hdg kk
theorem x_cast (hexec : p.tables.exec = Jvm.exec) (hb : c.code = cc) (hK : va_K D cl tys s) (hP : va_P D cl ws H) (hD : va_D A ws) (hS : va_S A H0 H locs) (q0 t0 : Nat) {cA : ClassId} {n : Nat} {f : Nat → Int32} (ha : ws[q0]? = some (a, .inl (cA, n, .inl f))) (ht : tys[t0]? = some (cA, .char)) {i : Int32} {x : Int32} (hin : vp_in i n) {k : Nat} (hk : i.toNatClampNeg = k) (hdg : decode cc pc = .ok (.castore, 1))
    (kk : ∀ (H1 : Heap) (locs1 : List Loc), va_P D cl (ws.set q0 (a, .inl (cA, n, .inl (upd f k (vp_nar .char x))))) H1 → va_D A (ws.set q0 (a, .inl (cA, n, .inl (upd f k (vp_nar .char x))))) → va_S A H0 H1 locs1 → W p l e R s m args below meth c H1 locs1 cells slots Q (F0 m (pc + 1) ls rest)) : W p l e R s m args below meth c H locs cells slots Q (F0 m pc ls (.int x :: .int i :: .ref a :: rest)) := by
  subst hk; exact va_cast hexec hb hK hP hD hS q0 t0 ha ht hin hdg kk
theorem x_zast (hexec : p.tables.exec = Jvm.exec) (hb : c.code = cc) (hK : va_K D cl tys s) (hP : va_P D cl ws H) (hD : va_D A ws) (hS : va_S A H0 H locs) (q0 t0 : Nat) {cA : ClassId} {n : Nat} {f : Nat → Int32} (ha : ws[q0]? = some (a, .inl (cA, n, .inl f))) (ht : tys[t0]? = some (cA, .boolean)) {i : Int32} {x : Int32} (hin : vp_in i n) {k : Nat} (hk : i.toNatClampNeg = k) (hdg : decode cc pc = .ok (.bastore, 1))
    (kk : ∀ (H1 : Heap) (locs1 : List Loc), va_P D cl (ws.set q0 (a, .inl (cA, n, .inl (upd f k (vp_nar .boolean x))))) H1 → va_D A (ws.set q0 (a, .inl (cA, n, .inl (upd f k (vp_nar .boolean x))))) → va_S A H0 H1 locs1 → W p l e R s m args below meth c H1 locs1 cells slots Q (F0 m (pc + 1) ls rest)) : W p l e R s m args below meth c H locs cells slots Q (F0 m pc ls (.int x :: .int i :: .ref a :: rest)) := by
  subst hk; exact va_zast hexec hb hK hP hD hS q0 t0 ha ht hin hdg kk
theorem x_aald (hexec : p.tables.exec = Jvm.exec) (hb : c.code = cc) (hK : va_K D cl tys s) (hP : va_P D cl ws H) (q0 t0 : Nat) {cA : ClassId} {C : String} {n : Nat} {f : Nat → Option Nat} (ha : ws[q0]? = some (a, .inl (cA, n, .inr (.inr (.inr (.inr f)))))) (ht : tys[t0]? = some (cA, .object C)) {i : Int32} (hin : vp_in i n) {k : Nat} (hk : i.toNatClampNeg = k) {h : Nat} (hf : f k = some h) (hdg : decode cc pc = .ok (.aaload, 1))
    (kk : W p l e R s m args below meth c H locs cells slots Q (F0 m (pc + 1) ls (.ref h :: rest))) : W p l e R s m args below meth c H locs cells slots Q (F0 m pc ls (.int i :: .ref a :: rest)) := by
  subst hk
  refine va_aldq hexec hb hK hP q0 t0 ha ht hin hdg ?_
  rw [hf]; exact kk
theorem x_copyi (hexec : p.tables.exec = Jvm.exec) (hb : c.code = cc) (hml : c.maxLocals = ls.size) {own : String} {index : Nat} (hown : s.vm.findClass own = some m.cls) (hlink : (Cond.methodLink own index arraycopyName).before args s = true) (hnat : (Cond.native arraycopyName).before args s = true) (hstat : (Cond.static arraycopyName).before args s = true) (hini : (Cond.initialized "java/lang/System").before args s = true)
    (hK : va_K D cl tys s) (hP : va_P D cl ws H) (hD : va_D A ws) (hS : va_S A H0 H locs) (q0 q1 t0 t1 : Nat) {a0 : Nat} {c0 c1 : ClassId} {n0 n1 : Nat} {f g : Nat → Int32} (ha0 : ws[q0]? = some (a0, .inl (c0, n0, .inl f))) (ha1 : ws[q1]? = some (a, .inl (c1, n1, .inl g))) (ht0 : tys[t0]? = some (c0, .int)) (ht1 : tys[t1]? = some (c1, .int))
    {n : Int32} (h3 : ¬ n < 0) (h4 : (0 : Int32).toNatClampNeg + n.toNatClampNeg ≤ n0) (h5 : (0 : Int32).toNatClampNeg + n.toNatClampNeg ≤ n1) {k : Nat} (hk : n.toNatClampNeg = k)
    (hframes : 1 ≤ R.frames) (hlocals : (rest.map fun v => v.category).sum + (nativeFrameWords "java/lang/System" "arraycopy" 5 + 11) ≤ R.locals) (hdg : decode cc pc = .ok (.invokestatic index, 3))
    (kk : ∀ (H1 : Heap) (locs1 : List Loc), va_P D cl (ws.set q1 (a, .inl (c1, n1, .inl (va_cpy f g 0 0 k)))) H1 → va_D A (ws.set q1 (a, .inl (c1, n1, .inl (va_cpy f g 0 0 k)))) → va_S A H0 H1 locs1 → W p l e R s m args below meth c H1 locs1 cells slots Q (F0 m (pc + 3) ls rest)) : W p l e R s m args below meth c H locs cells slots Q (F0 m pc ls (.int n :: .int 0 :: .ref a :: .int 0 :: .ref a0 :: rest)) := by
  subst hk
  exact va_copyi (ty := .int) hexec hb hml hown hlink hnat hstat hini hK hP hD hS q0 q1 t0 t1 ha0 ha1 ht0 ht1 rfl (by decide) (by decide) h3 h4 h5 (fun _ _ => rfl) hframes hlocals hdg kk
end XM
theorem x_met_i {l : Launch} {y : MethodName} {ws ws' : List Cond} {rm : Room} {cc : ByteArray} {maxL : Nat} {D : va_G} {tys : List (ClassId × FieldType)} {w w' : va_W} {av : List Value} {sz : Nat} {r : Int32} (hy : plainName y.cls = true) (hw : ws = Cond.code y cc maxL (some .int) :: ws') (hln : (lg_sl av).length ≤ maxL)
    (body : ∀ (p : Program) (e : Env) (s : State) (m : MethodId) (args : Array Value) (below : List Frame) (meth : Method) (c : Code) (A : Nat → Prop) (Q : State → Prop) (H : Heap) (locs : List Loc) (ls : Array Slot), p.tables.exec = Jvm.exec → c.code = cc → c.maxLocals = maxL → s.vm.findClass y.cls = some m.cls → (∀ z ∈ ws, z.before args s = true) → va_K D vwCl tys s → NX s → (∀ q, s.heap.size ≤ q → A q) → va_P D vwCl w H → va_D A w → va_S A s.heap H locs → lv_has ls maxL (lv_args 0 av) →
      (∀ {H : Heap} {locs : List Loc} {v : Int32} {pc : Nat} {ls : Array Slot}, v = r → va_P D vwCl w' H → va_D A w' → va_S A s.heap H locs → decode cc pc = .ok (.ireturn, 1) → W p l e rm s m args below meth c H locs 0 0 Q (F0 m pc ls [.int v])) → W p l e rm s m args below meth c H locs 0 0 Q (F0 m 0 ls [])) :
    Met l y ws rm (va_Pc av (preB sz D w tys)) (va_Qi (S := Unit) (fun v _ => v = r) (fun _ t => posB D w' tys (va_A w sz) t) (va_A w sz)) 0 0 (va_A w sz) := by
  refine Met.ofW (cc := cc) (maxL := maxL) (ret := some .int) hy hw ?_
  intro p e s m args below meth c s₁ B hml hv
  obtain ⟨rfl, hsz, hP, hK, hD0, hN⟩ := hv
  subst hsz
  have hl := lv_entry av hln
  rw [lg_entry_eq]
  have hlocks := B.notSynchronized
  refine body p e s m _ below meth c (va_A w s.heap.size) _ _ _ _ B.exec B.bytes hml (findClass_of_methodNamed B.named) (atoms_spec (ws := ws) B.pre) hK hN (fun q h => Or.inr h) hP (hD0.self) va_S.rf hl ?_
  intro H locs v pc ls hv hP9 hD9 hS hdg
  exact W.iret B.exec B.bytes B.returns (fun t ht hW => ⟨⟨v, (), rfl, hv, by rw [ht]; exact hP9, va_K.moved hW.alike hK, hD9⟩, hS.F ht⟩) hS.2.2 hdg hlocks
theorem x_met_z {l : Launch} {y : MethodName} {ws ws' : List Cond} {rm : Room} {cc : ByteArray} {maxL : Nat} {ty : FieldType} {D : va_G} {tys : List (ClassId × FieldType)} {w w' : va_W} {av : List Value} {sz : Nat} {r : Int32} (hy : plainName y.cls = true) (hw : ws = Cond.code y cc maxL (some ty) :: ws') (hln : (lg_sl av).length ≤ maxL)
    (body : ∀ (p : Program) (e : Env) (s : State) (m : MethodId) (args : Array Value) (below : List Frame) (meth : Method) (c : Code) (A : Nat → Prop) (Q : State → Prop) (H : Heap) (locs : List Loc) (ls : Array Slot), p.tables.exec = Jvm.exec → c.code = cc → c.maxLocals = maxL → s.vm.findClass y.cls = some m.cls → (∀ z ∈ ws, z.before args s = true) → va_K D vwCl tys s → NX s → (∀ q, s.heap.size ≤ q → A q) → va_P D vwCl w H → va_D A w → va_S A s.heap H locs → lv_has ls maxL (lv_args 0 av) →
      (∀ {H : Heap} {locs : List Loc} {v : Int32} {pc : Nat} {ls : Array Slot}, v = r → narrow ty (.int v) = .int v → va_P D vwCl w' H → va_D A w' → va_S A s.heap H locs → decode cc pc = .ok (.ireturn, 1) → W p l e rm s m args below meth c H locs 0 0 Q (F0 m pc ls [.int v])) → W p l e rm s m args below meth c H locs 0 0 Q (F0 m 0 ls [])) :
    Met l y ws rm (va_Pc av (preB sz D w tys)) (va_Qi (S := Unit) (fun v _ => v = r) (fun _ t => posB D w' tys (va_A w sz) t) (va_A w sz)) 0 0 (va_A w sz) := by
  refine Met.ofW (cc := cc) (maxL := maxL) (ret := some ty) hy hw ?_
  intro p e s m args below meth c s₁ B hml hv
  obtain ⟨rfl, hsz, hP, hK, hD0, hN⟩ := hv
  subst hsz
  have hl := lv_entry av hln
  rw [lg_entry_eq]
  have hlocks := B.notSynchronized
  refine body p e s m _ below meth c (va_A w s.heap.size) _ _ _ _ B.exec B.bytes hml (findClass_of_methodNamed B.named) (atoms_spec (ws := ws) B.pre) hK hN (fun q h => Or.inr h) hP (hD0.self) va_S.rf hl ?_
  intro H locs v pc ls hv hn hP9 hD9 hS hdg
  exact W.zret B.exec B.bytes B.returns hn (fun t ht hW => ⟨⟨v, (), rfl, hv, by rw [ht]; exact hP9, va_K.moved hW.alike hK, hD9⟩, hS.F ht⟩) hS.2.2 hdg hlocks
theorem x_met_l {l : Launch} {y : MethodName} {ws ws' : List Cond} {rm : Room} {cc : ByteArray} {maxL : Nat} {D : va_G} {tys : List (ClassId × FieldType)} {w w' : va_W} {av : List Value} {sz : Nat} {r : Int64} (hy : plainName y.cls = true) (hw : ws = Cond.code y cc maxL (some .long) :: ws') (hln : (lg_sl av).length ≤ maxL)
    (body : ∀ (p : Program) (e : Env) (s : State) (m : MethodId) (args : Array Value) (below : List Frame) (meth : Method) (c : Code) (A : Nat → Prop) (Q : State → Prop) (H : Heap) (locs : List Loc) (ls : Array Slot), p.tables.exec = Jvm.exec → c.code = cc → c.maxLocals = maxL → s.vm.findClass y.cls = some m.cls → (∀ z ∈ ws, z.before args s = true) → va_K D vwCl tys s → NX s → (∀ q, s.heap.size ≤ q → A q) → va_P D vwCl w H → va_D A w → va_S A s.heap H locs → lv_has ls maxL (lv_args 0 av) →
      (∀ {H : Heap} {locs : List Loc} {v : Int64} {pc : Nat} {ls : Array Slot}, v = r → va_P D vwCl w' H → va_D A w' → va_S A s.heap H locs → decode cc pc = .ok (.lreturn, 1) → W p l e rm s m args below meth c H locs 0 0 Q (F0 m pc ls [.long v])) → W p l e rm s m args below meth c H locs 0 0 Q (F0 m 0 ls [])) :
    Met l y ws rm (va_Pc av (preB sz D w tys)) (va_Ql (S := Unit) (fun v _ => v = r) (fun _ t => posB D w' tys (va_A w sz) t) (va_A w sz)) 0 0 (va_A w sz) := by
  refine Met.ofW (cc := cc) (maxL := maxL) (ret := some .long) hy hw ?_
  intro p e s m args below meth c s₁ B hml hv
  obtain ⟨rfl, hsz, hP, hK, hD0, hN⟩ := hv
  subst hsz
  have hl := lv_entry av hln
  rw [lg_entry_eq]
  have hlocks := B.notSynchronized
  refine body p e s m _ below meth c (va_A w s.heap.size) _ _ _ _ B.exec B.bytes hml (findClass_of_methodNamed B.named) (atoms_spec (ws := ws) B.pre) hK hN (fun q h => Or.inr h) hP (hD0.self) va_S.rf hl ?_
  intro H locs v pc ls hv hP9 hD9 hS hdg
  exact W.lret B.exec B.bytes B.returns (fun t ht hW => ⟨⟨v, (), rfl, hv, by rw [ht]; exact hP9, va_K.moved hW.alike hK, hD9⟩, hS.F ht⟩) hS.2.2 hdg hlocks
theorem x_met_v {l : Launch} {y : MethodName} {ws ws' : List Cond} {rm : Room} {cc : ByteArray} {maxL : Nat} {D : va_G} {tys : List (ClassId × FieldType)} {w w' : va_W} {av : List Value} {sz : Nat} (hy : plainName y.cls = true) (hw : ws = Cond.code y cc maxL none :: ws') (hln : (lg_sl av).length ≤ maxL)
    (body : ∀ (p : Program) (e : Env) (s : State) (m : MethodId) (args : Array Value) (below : List Frame) (meth : Method) (c : Code) (A : Nat → Prop) (Q : State → Prop) (H : Heap) (locs : List Loc) (ls : Array Slot), p.tables.exec = Jvm.exec → c.code = cc → c.maxLocals = maxL → s.vm.findClass y.cls = some m.cls → (∀ z ∈ ws, z.before args s = true) → va_K D vwCl tys s → NX s → (∀ q, s.heap.size ≤ q → A q) → va_P D vwCl w H → va_D A w → va_S A s.heap H locs → lv_has ls maxL (lv_args 0 av) →
      (∀ {H : Heap} {locs : List Loc} {pc : Nat} {ls : Array Slot}, va_P D vwCl w' H → va_D A w' → va_S A s.heap H locs → decode cc pc = .ok (.return_, 1) → W p l e rm s m args below meth c H locs 0 0 Q (F0 m pc ls [])) → W p l e rm s m args below meth c H locs 0 0 Q (F0 m 0 ls [])) :
    Met l y ws rm (va_Pc av (preB sz D w tys)) (va_Qv (S := Unit) (fun _ => True) (fun _ t => posB D w' tys (va_A w sz) t) (va_A w sz)) 0 0 (va_A w sz) := by
  refine Met.ofW (cc := cc) (maxL := maxL) (ret := none) hy hw ?_
  intro p e s m args below meth c s₁ B hml hv
  obtain ⟨rfl, hsz, hP, hK, hD0, hN⟩ := hv
  subst hsz
  have hl := lv_entry av hln
  rw [lg_entry_eq]
  have hlocks := B.notSynchronized
  refine body p e s m _ below meth c (va_A w s.heap.size) _ _ _ _ B.exec B.bytes hml (findClass_of_methodNamed B.named) (atoms_spec (ws := ws) B.pre) hK hN (fun q h => Or.inr h) hP (hD0.self) va_S.rf hl ?_
  intro H locs pc ls hP9 hD9 hS hdg
  exact W.vret B.exec B.bytes B.returns (fun t ht hW => ⟨⟨(), rfl, trivial, by rw [ht]; exact hP9, va_K.moved hW.alike hK, hD9⟩, hS.F ht⟩) hS.2.2 hdg hlocks
/-! methods that answer an object or null: what they answer is named by the caller -/
def x_Qo (v0 : Value) (B : State → Prop) (A : Nat → Prop) : Array Value → State → Outcome → State → Prop := fun _ st oc t => (oc = .returned (some v0) ∧ B t) ∧ va_F A st t
section XO
variable {p : Program} {l : Launch} {e : Env} {R : Room} {s : State} {m : MethodId} {args : Array Value} {below : List Frame} {meth : Method} {c : Code} {H : Heap} {locs : List Loc} {cells slots : Nat} {Q : State → Prop}
variable {pc : Nat} {ls : Array Slot} {rest st0 : List Value} {a : Array Value} {A0 A1 : Nat → Prop} {H0 : Heap} {mc ms : Nat} {free : Addr → Prop}
theorem x_callo {v0 : Value} {B : State → Prop} (hr : va_Run p l e R s m args below meth c H locs cells slots mc ms (F0 m pc ls st0) rest (x_Qo v0 B A1 a) free) (hS : va_S A0 H0 H locs) (hA : ∀ q, q < H.size → A1 q → A0 q) (hf : ∀ q, free q → A0 q)
    (kk : ∀ (t : State) (H1 : Heap) (locs1 : List Loc), t.heap = H1 → s.vm.Alike t.vm → B t → H.size ≤ H1.size → (∀ q : Nat, q < H.size → ¬ A1 q → H1[q]? = H[q]?) → va_S A0 H0 H1 locs1 → W p l e R s m args below meth c H1 locs1 (cells + mc) (slots + ms) Q (F0 m (pc + 3) ls (v0 :: rest))) : W p l e R s m args below meth c H locs cells slots Q (F0 m pc ls st0) := by
  intro T hT X
  obtain ⟨v, st₀, t, T', L, h0, X', hL, e1, e2, ⟨⟨hv, hb⟩, hz, hk⟩, st⟩ := hr T hT X
  cases hv
  rw [h0] at hz hk
  obtain ⟨t2, a1, b1⟩ := kk t T'.heap (locs ++ L) e1.symm (by rw [← e2]; exact X'.warmed.alike) hb (by rw [e1]; exact hz) (fun q h1 h2 => by rw [e1]; exact hk q h1 h2)
    ⟨Nat.le_trans hS.1 (by rw [e1]; exact hz), fun q h1 h2 => by rw [e1, hk q (Nat.lt_of_lt_of_le h1 hS.1) (fun z => h2 (hA q (Nat.lt_of_lt_of_le h1 hS.1) z))]; exact hS.2.1 q h1 h2, fun q hq => by
      rcases List.mem_append.mp hq with h | h
      · exact hS.2.2 q h
      · exact hf _ (hL q h)⟩ T' rfl X'
  exact ⟨t2, st t2 a1, b1⟩
end XO
theorem x_met_o {l : Launch} {y : MethodName} {ws ws' : List Cond} {rm : Room} {cc : ByteArray} {maxL : Nat} {C : String} {D : va_G} {tys : List (ClassId × FieldType)} {w w' : va_W} {av : List Value} {sz : Nat} {v0 : Value} (hy : plainName y.cls = true) (hw : ws = Cond.code y cc maxL (some (.object C)) :: ws') (hln : (lg_sl av).length ≤ maxL) (hv0 : v0 = .null ∨ ∃ a, v0 = .ref a)
    (body : ∀ (p : Program) (e : Env) (s : State) (m : MethodId) (args : Array Value) (below : List Frame) (meth : Method) (c : Code) (A : Nat → Prop) (Q : State → Prop) (H : Heap) (locs : List Loc) (ls : Array Slot), p.tables.exec = Jvm.exec → c.code = cc → c.maxLocals = maxL → s.vm.findClass y.cls = some m.cls → (∀ z ∈ ws, z.before args s = true) → va_K D vwCl tys s → NX s → (∀ q, s.heap.size ≤ q → A q) → va_P D vwCl w H → va_D A w → va_S A s.heap H locs → lv_has ls maxL (lv_args 0 av) →
      (∀ {H : Heap} {locs : List Loc} {v : Value} {pc : Nat} {ls : Array Slot}, v = v0 → va_P D vwCl w' H → va_D A w' → va_S A s.heap H locs → decode cc pc = .ok (.areturn, 1) → W p l e rm s m args below meth c H locs 0 0 Q (F0 m pc ls [v])) → W p l e rm s m args below meth c H locs 0 0 Q (F0 m 0 ls [])) :
    Met l y ws rm (va_Pc av (preB sz D w tys)) (x_Qo v0 (fun t => posB D w' tys (va_A w sz) t) (va_A w sz)) 0 0 (va_A w sz) := by
  refine Met.ofW (cc := cc) (maxL := maxL) (ret := some (.object C)) hy hw ?_
  intro p e s m args below meth c s₁ B hml hv
  obtain ⟨rfl, hsz, hP, hK, hD0, hN⟩ := hv
  subst hsz
  have hl := lv_entry av hln
  rw [lg_entry_eq]
  have hlocks := B.notSynchronized
  refine body p e s m _ below meth c (va_A w s.heap.size) _ _ _ _ B.exec B.bytes hml (findClass_of_methodNamed B.named) (atoms_spec (ws := ws) B.pre) hK hN (fun q h => Or.inr h) hP (hD0.self) va_S.rf hl ?_
  intro H locs v pc ls hv hP9 hD9 hS hdg
  exact W.aret B.exec B.bytes B.returns (Or.inl ⟨_, rfl⟩) (by rw [hv]; exact hv0) (fun t ht hW => ⟨⟨by rw [hv], by rw [ht]; exact hP9, va_K.moved hW.alike hK, hD9⟩, hS.F ht⟩) hS.2.2 hdg hlocks
theorem slot_lt {x : Int32} (h : x < 0) : ¬ x = 0 ∧ ¬ x = 1 := ⟨fun e => by subst e; exact absurd h (by decide), fun e => by subst e; exact absurd h (by decide)⟩
theorem slot_ge {x : Int32} (h : ¬ x < 2) : ¬ x = 0 ∧ ¬ x = 1 := ⟨fun e => by subst e; exact absurd (by decide) h, fun e => by subst e; exact absurd (by decide) h⟩
theorem slot_1 {x : Int32} (h : x = 1) : ¬ x = 0 := fun e => by subst e; exact absurd h (by decide)
