/-! a world in two pieces: the law's own cells r, and the class's module w as one word -/
section TP
variable {D : va_G} {cl : List vw_C} {A0 : Nat → Prop} {r w : va_W} {H : Heap}
theorem ap_l {k : Nat} {q : Nat × va_E} (hk : r[k]? = some q) : (r ++ w)[k]? = some q := by
  rw [List.getElem?_append_left (List.getElem?_eq_some_iff.mp hk).1]; exact hk
theorem ap_r {k : Nat} {q : Nat × va_E} (hk : w[k]? = some q) : (r ++ w)[r.length + k]? = some q := by
  rw [List.getElem?_append_right (by omega), show r.length + k - r.length = k by omega]; exact hk
theorem ap_lt {k : Nat} {q : Nat × va_E} (hk : r[k]? = some q) : k < r.length := (List.getElem?_eq_some_iff.mp hk).1
theorem P_l (h : va_P D cl (r ++ w) H) : va_P D cl r H := fun k q hk => h k q (ap_l hk)
theorem P_r (h : va_P D cl (r ++ w) H) : va_P D cl w H := fun k q hk => h (r.length + k) q (ap_r hk)
theorem D_l (h : va_D A0 (r ++ w)) : va_D A0 r := ⟨fun i j p q hi hj e => h.1 i j p q (ap_l hi) (ap_l hj) e, fun k q hk => h.2 k q (ap_l hk)⟩
theorem D_r (h : va_D A0 (r ++ w)) : va_D A0 w := ⟨fun i j p q hi hj e => by have := h.1 _ _ p q (ap_r hi) (ap_r hj) e; omega, fun k q hk => h.2 _ q (ap_r hk)⟩
theorem D_ne (h : va_D A0 (r ++ w)) {i j : Nat} {p q : Nat × va_E} (hi : r[i]? = some p) (hj : w[j]? = some q) : p.1 ≠ q.1 := fun e => by
  have h1 := h.1 i (r.length + j) p q (ap_l hi) (ap_r hj) e
  have h2 := ap_lt hi
  omega
theorem F_all {H0 : Heap} {locs : List Loc} (hD : va_D A0 w) (hS : va_S A0 H0 H locs) (hA : ∀ q, H0.size ≤ q → A0 q) : ∀ q, va_A w H.size q → A0 q := fun q h => by
  rcases h with ⟨k, e, hk⟩ | h
  · exact hD.2 k (q, e) hk
  · exact hA q (Nat.le_trans hS.1 h)
theorem F_r {H0 : Heap} {locs : List Loc} (hD : va_D A0 (r ++ w)) (hS : va_S A0 H0 H locs) (hA : ∀ q, H0.size ≤ q → A0 q) : ∀ q, va_A w H.size q → A0 q := F_all (D_r hD) hS hA
theorem P_old {H1 : Heap} (hP : va_P D cl w H) (hk : ∀ q : Nat, q < H.size → ¬ H.size ≤ q → H1[q]? = H[q]?) : va_P D cl w H1 := hP.kept (fun k q hq => hk q.1 (hP k q hq).lt (Nat.not_le.mpr (hP k q hq).lt))
end TP
section TJ
variable {D : va_G} {A0 : Nat → Prop} {r r' w w' wc w1 ws ws' : va_W} {H H1 : Heap} {t : State} {tys : List (ClassId × FieldType)}
theorem x_joinA (hP : va_P D vwCl ws H) (hD : va_D A0 ws) (hF : ∀ q, va_A ws H.size q → A0 q) (ht : t.heap = H1) (hB : posB D ws' tys (va_A ws H.size) t) : va_P D vwCl ws' H1 ∧ va_D A0 ws' :=
  ⟨by rw [← ht]; exact hB.1, hB.2.2.weaken (fun k q _ h => hF q.1 h)⟩
theorem x_joinR (hP : va_P D vwCl (r ++ w) H) (hD : va_D A0 (r ++ w)) (hk : ∀ q : Nat, q < H.size → ¬ va_A w H.size q → H1[q]? = H[q]?) (hF : ∀ q, va_A w H.size q → A0 q) (ht : t.heap = H1) (hB : posB D w' tys (va_A w H.size) t) : va_P D vwCl (r ++ w') H1 ∧ va_D A0 (r ++ w') := by
  obtain ⟨hP1, -, hD1⟩ := hB
  rw [ht] at hP1
  have ap : ∀ (k : Nat) (q : Nat × va_E), r[k]? = some q → q.1 < H.size ∧ ¬ va_A w H.size q.1 := by
    intro k q hq
    have hl := (P_l hP k q hq).lt
    refine ⟨hl, fun h => ?_⟩
    rcases h with ⟨k2, e, h⟩ | h
    · exact D_ne hD hq h rfl
    · omega
  refine ⟨va_P.app ((P_l hP).kept (fun k q hq => hk q.1 (ap k q hq).1 (ap k q hq).2)) hP1, va_D.app (D_l hD) (hD1.weaken (fun k q _ h => hF q.1 h)) (fun i j x y hx hy hxy => ?_)⟩
  exact (ap i x hx).2 (by rw [hxy]; exact hD1.2 j y hy)
theorem x_joinL (hP : va_P D vwCl (r ++ w) H) (hD : va_D A0 (r ++ w)) (isC isR : List Nat) (hC : isC.map (fun i => r[i]?) = wc.map some) (hR : isR.all (fun i => Nat.ble (i + 1) r.length) = true) (hn : va_nd isR = true) (hdis : ∀ i ∈ isR, i ∉ isC)
    (hk : ∀ q : Nat, q < H.size → ¬ va_A wc H.size q → H1[q]? = H[q]?) (hF : ∀ q, va_A wc H.size q → A0 q) (ht : t.heap = H1) (hB : posB D w1 tys (va_A wc H.size) t) (pm : List Nat) (hpn : va_nd pm = true) (hpm : pm.map (fun i => (isR.filterMap (fun i => r[i]?) ++ w1)[i]?) = r'.map some) (hadr : r'.map Prod.fst = r.map Prod.fst) : va_P D vwCl (r' ++ w) H1 ∧ va_D A0 (r' ++ w) := by
  obtain ⟨hP1, hD1⟩ := x_join (ws' := r') (P_l hP) (D_l hD) isC isR hC hR hn hdis hk hF ht hB pm hpn hpm
  have ap : ∀ (k : Nat) (q : Nat × va_E), w[k]? = some q → q.1 < H.size ∧ ¬ va_A wc H.size q.1 := by
    intro k q hq
    have hl := (P_r hP k q hq).lt
    refine ⟨hl, fun h => ?_⟩
    rcases h with ⟨k2, e, h⟩ | h
    · have h1 : (isC.map (fun i => r[i]?))[k2]? = some (some (q.1, e)) := by rw [hC, List.getElem?_map, h]; rfl
      rw [List.getElem?_map] at h1
      cases hi : isC[k2]? with
      | none => rw [hi] at h1; cases h1
      | some i => rw [hi] at h1; exact D_ne hD (Option.some.inj h1) hq rfl
    · omega
  refine ⟨va_P.app hP1 ((P_r hP).kept (fun k q hq => hk q.1 (ap k q hq).1 (ap k q hq).2)), va_D.app hD1 (D_r hD) (fun i j x y hx hy hxy => ?_)⟩
  have h1 : (r'.map Prod.fst)[i]? = some x.1 := by rw [List.getElem?_map, hx]; rfl
  rw [hadr, List.getElem?_map] at h1
  cases hi : r[i]? with
  | none => rw [hi] at h1; cases h1
  | some p =>
    rw [hi] at h1
    have h2 : p.1 = x.1 := Option.some.inj h1
    exact D_ne hD hi hy (h2.trans hxy)
theorem wk_F {w wc : va_W} {sz : Nat} {isC : List Nat} (hC : isC.map (fun i => w[i]?) = wc.map some) : ∀ q, va_A wc sz q → va_A w sz q := fun q h => by
  rcases h with ⟨k2, e, h⟩ | h
  · have h1 : (isC.map (fun i => w[i]?))[k2]? = some (some (q, e)) := by rw [hC, List.getElem?_map, h]; rfl
    rw [List.getElem?_map] at h1
    cases hi : isC[k2]? with
    | none => rw [hi] at h1; cases h1
    | some i => rw [hi] at h1; exact Or.inl ⟨i, e, Option.some.inj h1⟩
  · exact Or.inr h
theorem met_wki {l : Launch} {y : MethodName} {wds : List Cond} {rm : Room} {av : List Value} {sz : Nat} {x : Int32} {w w' wc wc' : va_W} (h : Met l y wds rm (va_Pc av (preB sz D wc tys)) (va_Qi (S := Unit) (fun v _ => v = x) (fun _ t => posB D wc' tys (va_A wc sz) t) (va_A wc sz)) 0 0 (va_A wc sz))
    (isC isR : List Nat) (hC : isC.map (fun i => w[i]?) = wc.map some) (hR : isR.all (fun i => Nat.ble (i + 1) w.length) = true) (hnC : va_nd isC = true) (hn : va_nd isR = true) (hdis : ∀ i ∈ isR, i ∉ isC) (pm : List Nat) (hpn : va_nd pm = true) (hpm : pm.map (fun i => (isR.filterMap (fun i => w[i]?) ++ wc')[i]?) = w'.map some) :
    Met l y wds rm (va_Pc av (preB sz D w tys)) (va_Qi (S := Unit) (fun v _ => v = x) (fun _ t => posB D w' tys (va_A w sz) t) (va_A w sz)) 0 0 (va_A w sz) := by
  have hF := wk_F (sz := sz) hC
  refine Free.MetFree.mono h (fun a s hp => ?_) (fun _ _ _ _ _ h => h) (fun a s o s' hp hq => ?_)
  · obtain ⟨h0, h1, hP, hK, hD, hN⟩ := hp
    exact ⟨h0, h1, hP.sub isC (fm_of_map hC), hK, hD.sub isC hnC hC, hN⟩
  · obtain ⟨⟨⟨v, u, ho, hv, hB⟩, hz, hk⟩, Lc, hL, hf⟩ := hq
    obtain ⟨h0, h1, hP, hK, hD, hN⟩ := hp
    subst h1
    obtain ⟨hP1, hD1⟩ := x_join (ws' := w') hP (hD.self) isC isR hC hR hn hdis hk hF rfl hB pm hpn hpm
    exact ⟨⟨⟨v, u, ho, hv, hP1, hB.2.1, hD1⟩, hz, fun q h2 h3 => hk q h2 (fun z => h3 (hF q z))⟩, Lc, hL, fun q hq => hF _ (hf q hq)⟩
theorem met_wkl {l : Launch} {y : MethodName} {wds : List Cond} {rm : Room} {av : List Value} {sz : Nat} {x : Int64} {w w' wc wc' : va_W} (h : Met l y wds rm (va_Pc av (preB sz D wc tys)) (va_Ql (S := Unit) (fun v _ => v = x) (fun _ t => posB D wc' tys (va_A wc sz) t) (va_A wc sz)) 0 0 (va_A wc sz))
    (isC isR : List Nat) (hC : isC.map (fun i => w[i]?) = wc.map some) (hR : isR.all (fun i => Nat.ble (i + 1) w.length) = true) (hnC : va_nd isC = true) (hn : va_nd isR = true) (hdis : ∀ i ∈ isR, i ∉ isC) (pm : List Nat) (hpn : va_nd pm = true) (hpm : pm.map (fun i => (isR.filterMap (fun i => w[i]?) ++ wc')[i]?) = w'.map some) :
    Met l y wds rm (va_Pc av (preB sz D w tys)) (va_Ql (S := Unit) (fun v _ => v = x) (fun _ t => posB D w' tys (va_A w sz) t) (va_A w sz)) 0 0 (va_A w sz) := by
  have hF := wk_F (sz := sz) hC
  refine Free.MetFree.mono h (fun a s hp => ?_) (fun _ _ _ _ _ h => h) (fun a s o s' hp hq => ?_)
  · obtain ⟨h0, h1, hP, hK, hD, hN⟩ := hp
    exact ⟨h0, h1, hP.sub isC (fm_of_map hC), hK, hD.sub isC hnC hC, hN⟩
  · obtain ⟨⟨⟨v, u, ho, hv, hB⟩, hz, hk⟩, Lc, hL, hf⟩ := hq
    obtain ⟨h0, h1, hP, hK, hD, hN⟩ := hp
    subst h1
    obtain ⟨hP1, hD1⟩ := x_join (ws' := w') hP (hD.self) isC isR hC hR hn hdis hk hF rfl hB pm hpn hpm
    exact ⟨⟨⟨v, u, ho, hv, hP1, hB.2.1, hD1⟩, hz, fun q h2 h3 => hk q h2 (fun z => h3 (hF q z))⟩, Lc, hL, fun q hq => hF _ (hf q hq)⟩
end TJ
/-! rows of longs -/
section XL
variable {p : Program} {l : Launch} {e : Env} {R : Room} {s : State} {m : MethodId} {args : Array Value} {below : List Frame} {meth : Method} {c : Code} {H : Heap} {locs : List Loc} {cells slots : Nat} {Q : State → Prop}
variable {cc : ByteArray} {pc : Nat} {ls : Array Slot} {rest : List Value} {D : va_G} {cl : List vw_C} {A : Nat → Prop} {a : Nat} {tys : List (ClassId × FieldType)} {ws : va_W} {H0 : Heap}
theorem x_lald (hexec : p.tables.exec = Jvm.exec) (hb : c.code = cc) (hK : va_K D cl tys s) (hP : va_P D cl ws H) (q0 t0 : Nat) {cA : ClassId} {n : Nat} {f : Nat → Int64} (ha : ws[q0]? = some (a, .inl (cA, n, .inr (.inl f)))) (ht : tys[t0]? = some (cA, .long)) {i : Int32} (hin : vp_in i n) {k : Nat} (hk : i.toNatClampNeg = k) (hdg : decode cc pc = .ok (.laload, 1))
    (kk : W p l e R s m args below meth c H locs cells slots Q (F0 m (pc + 1) ls (.long (f k) :: rest))) : W p l e R s m args below meth c H locs cells slots Q (F0 m pc ls (.int i :: .ref a :: rest)) := by
  subst hk; exact va_lald hexec hb hK hP q0 t0 ha ht hin hdg kk
theorem x_last (hexec : p.tables.exec = Jvm.exec) (hb : c.code = cc) (hK : va_K D cl tys s) (hP : va_P D cl ws H) (hD : va_D A ws) (hS : va_S A H0 H locs) (q0 t0 : Nat) {cA : ClassId} {n : Nat} {f : Nat → Int64} (ha : ws[q0]? = some (a, .inl (cA, n, .inr (.inl f)))) (ht : tys[t0]? = some (cA, .long)) {i : Int32} {x : Int64} (hin : vp_in i n) {k : Nat} (hk : i.toNatClampNeg = k) (hdg : decode cc pc = .ok (.lastore, 1))
    (kk : ∀ (H1 : Heap) (locs1 : List Loc), va_P D cl (ws.set q0 (a, .inl (cA, n, .inr (.inl (vp_updL f k x))))) H1 → va_D A (ws.set q0 (a, .inl (cA, n, .inr (.inl (vp_updL f k x))))) → va_S A H0 H1 locs1 → W p l e R s m args below meth c H1 locs1 cells slots Q (F0 m (pc + 1) ls rest)) : W p l e R s m args below meth c H locs cells slots Q (F0 m pc ls (.long x :: .int i :: .ref a :: rest)) := by
  subst hk; exact va_last hexec hb hK hP hD hS q0 t0 ha ht hin hdg kk
end XL
/-! the script, read by a method of the law -/
def preX (sz b L : Nat) (xs : Nat → Int32) (U : State) : Prop := U.heap.size = sz ∧ va_X b L xs U U.heap ∧ b < sz
theorem preX_fb {av : List Value} {sz b L : Nat} {xs : Nat → Int32} : FrameBlind (va_Pc av (preX sz b L xs)) := fun a U g mk q => by
  obtain ⟨q0, q1, qX, qb⟩ := q
  exact ⟨q0, q1, va_X.moved (u := U) (U := U.calling g mk a) (Vm.Alike.refl U.vm) qX, qb⟩
theorem preX_mk {av : List Value} {s U : State} {H : Heap} {b L : Nat} {xs : Nat → Int32} {A : Nat → Prop} {locs : List Loc} (hU : U.heap = H) (hW : s.WarmedH U.vm) (hX : va_X b L xs s s.heap) (hbl : b < s.heap.size) (hbA : ¬ A b) (hS : va_S A s.heap H locs) : va_Pc av (preX H.size b L xs) av.toArray U :=
  ⟨rfl, by rw [hU], by rw [hU]; exact va_X.moved hW.alike (hX.kept (hS.2.1 b hbl hbA)), Nat.lt_of_lt_of_le hbl hS.1⟩
