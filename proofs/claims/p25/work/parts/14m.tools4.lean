/-! a callee's cells among ours by a mask, in our order: one way through the lists -/
def pickT : List Bool → va_W → va_W
  | [], _ => []
  | _ :: _, [] => []
  | true :: m, c :: ws => c :: pickT m ws
  | false :: m, _ :: ws => pickT m ws
def pickF : List Bool → va_W → va_W
  | [], ws => ws
  | _ :: _, [] => []
  | true :: m, _ :: ws => pickF m ws
  | false :: m, c :: ws => c :: pickF m ws
def mergeW : List Bool → va_W → va_W → va_W
  | [], _, ws => ws
  | _ :: _, _, [] => []
  | true :: m, [], c :: ws => c :: mergeW m [] ws
  | true :: m, d :: w1, _ :: ws => d :: mergeW m w1 ws
  | false :: m, w1, c :: ws => c :: mergeW m w1 ws
theorem pickT_sub : ∀ (m : List Bool) (ws : va_W), (pickT m ws).Sublist ws
  | [], ws => List.nil_sublist ws
  | _ :: _, [] => List.Sublist.refl _
  | true :: m, c :: ws => (pickT_sub m ws).cons₂ c
  | false :: m, c :: ws => (pickT_sub m ws).cons c
theorem pickF_sub : ∀ (m : List Bool) (ws : va_W), (pickF m ws).Sublist ws
  | [], ws => List.Sublist.refl ws
  | _ :: _, [] => List.Sublist.refl _
  | true :: m, c :: ws => (pickF_sub m ws).cons c
  | false :: m, c :: ws => (pickF_sub m ws).cons₂ c
theorem P_mem {D : va_G} {cl : List vw_C} {ws : va_W} {H : Heap} : va_P D cl ws H ↔ ∀ q ∈ ws, va_at D cl q H := by
  constructor
  · intro h q hq
    obtain ⟨i, hi⟩ := List.getElem?_of_mem hq
    exact h i q hi
  · intro h k q hk
    exact h q (List.mem_of_getElem? hk)
theorem D_nd {A : Nat → Prop} {ws : va_W} : va_D A ws ↔ (ws.map (fun q => q.1)).Nodup ∧ ∀ q ∈ ws, A q.1 := by
  constructor
  · intro h
    refine ⟨?_, fun q hq => ?_⟩
    · rw [List.Nodup, List.pairwise_iff_getElem]
      intro i j hi hj hij e
      rw [List.getElem_map, List.getElem_map] at e
      have hi' : i < ws.length := by simpa using hi
      have hj' : j < ws.length := by simpa using hj
      have := h.1 i j _ _ (List.getElem?_eq_getElem hi') (List.getElem?_eq_getElem hj') e
      omega
    · obtain ⟨i, hi⟩ := List.getElem?_of_mem hq
      exact h.2 i q hi
  · intro h
    refine ⟨fun i j p q hi hj e => ?_, fun k q hk => h.2 q (List.mem_of_getElem? hk)⟩
    obtain ⟨hi1, hi2⟩ := List.getElem?_eq_some_iff.mp hi
    obtain ⟨hj1, hj2⟩ := List.getElem?_eq_some_iff.mp hj
    have hp := h.1
    rw [List.Nodup, List.pairwise_iff_getElem] at hp
    rcases Nat.lt_trichotomy i j with c | c | c
    · exact absurd (by rw [List.getElem_map, List.getElem_map, hi2, hj2]; exact e) (hp i j (by simpa using hi1) (by simpa using hj1) c)
    · exact c
    · exact absurd (by rw [List.getElem_map, List.getElem_map, hi2, hj2]; exact e.symm) (hp j i (by simpa using hj1) (by simpa using hi1) c)
theorem mergeW_fst : ∀ (m : List Bool) (ws w1 : va_W), (pickT m ws).map (fun q => q.1) = w1.map (fun q => q.1) → (mergeW m w1 ws).map (fun q => q.1) = ws.map (fun q => q.1)
  | [], _, _, _ => rfl
  | _ :: _, [], _, _ => by simp [mergeW]
  | true :: m, c :: ws, [], h => by simp [pickT] at h
  | true :: m, c :: ws, d :: w1, h => by
    simp only [pickT, List.map_cons, List.cons.injEq] at h
    simp only [mergeW, List.map_cons]
    rw [mergeW_fst m ws w1 h.2, h.1]
  | false :: m, c :: ws, w1, h => by
    simp only [pickT] at h
    simp only [mergeW, List.map_cons]
    rw [mergeW_fst m ws w1 h]
theorem mergeW_mem : ∀ (m : List Bool) (ws w1 : va_W) (q : Nat × va_E), (pickT m ws).map (fun q => q.1) = w1.map (fun q => q.1) → q ∈ mergeW m w1 ws → q ∈ w1 ∨ q ∈ pickF m ws
  | [], _, _, _, _, h => Or.inr h
  | _ :: _, [], _, _, _, h => by simp [mergeW] at h
  | true :: m, c :: ws, [], q, e, h => by simp [pickT] at e
  | true :: m, c :: ws, d :: w1, q, e, h => by
    simp only [pickT, List.map_cons, List.cons.injEq] at e
    simp only [mergeW, List.mem_cons] at h
    rcases h with h | h
    · exact Or.inl (by rw [h]; exact List.mem_cons_self)
    · rcases mergeW_mem m ws w1 q e.2 h with g | g
      · exact Or.inl (List.mem_cons_of_mem _ g)
      · exact Or.inr g
  | false :: m, c :: ws, w1, q, e, h => by
    simp only [pickT] at e
    simp only [mergeW, List.mem_cons] at h
    rcases h with h | h
    · exact Or.inr (by rw [h]; exact List.mem_cons_self)
    · rcases mergeW_mem m ws w1 q e h with g | g
      · exact Or.inl g
      · exact Or.inr (List.mem_cons_of_mem _ g)
theorem pick_apart : ∀ (m : List Bool) (ws : va_W) (q : Nat × va_E), (ws.map (fun q => q.1)).Nodup → q ∈ pickF m ws → q.1 ∉ (pickT m ws).map (fun q => q.1)
  | [], _, _, _, _ => by simp [pickT]
  | _ :: _, [], _, _, h => by simp [pickF] at h
  | true :: m, c :: ws, q, hn, h => by
    simp only [List.map_cons, List.nodup_cons] at hn
    simp only [pickF] at h
    simp only [pickT, List.map_cons, List.mem_cons]
    intro g
    rcases g with g | g
    · exact hn.1 (by rw [← g]; exact List.mem_map_of_mem ((pickF_sub m ws).subset h))
    · exact pick_apart m ws q hn.2 h g
  | false :: m, c :: ws, q, hn, h => by
    simp only [List.map_cons, List.nodup_cons] at hn
    simp only [pickF, List.mem_cons] at h
    simp only [pickT]
    rcases h with h | h
    · intro g
      obtain ⟨x, hx, e⟩ := List.mem_map.mp g
      exact hn.1 (by rw [← h, ← e]; exact List.mem_map_of_mem ((pickT_sub m ws).subset hx))
    · exact pick_apart m ws q hn.2 h
theorem P_mask {D : va_G} {cl : List vw_C} {ws wc : va_W} {H : Heap} {m : List Bool} (h : va_P D cl ws H) (e : pickT m ws = wc) : va_P D cl wc H := by
  subst e
  exact P_mem.mpr (fun q hq => P_mem.mp h q ((pickT_sub m ws).subset hq))
theorem D_mask {A : Nat → Prop} {ws wc : va_W} {m : List Bool} (h : va_D A ws) (e : pickT m ws = wc) : va_D A wc := by
  subst e
  have h1 := D_nd.mp h
  exact D_nd.mpr ⟨h1.1.sublist ((pickT_sub m ws).map _), fun q hq => h1.2 q ((pickT_sub m ws).subset hq)⟩
theorem F_mask {A0 : Nat → Prop} {ws wc : va_W} {H0 H : Heap} {locs : List Loc} {m : List Bool} (hD : va_D A0 ws) (hS : va_S A0 H0 H locs) (hA : ∀ q, H0.size ≤ q → A0 q) (e : pickT m ws = wc) : ∀ q, va_A wc H.size q → A0 q := by
  intro q h
  rcases h with ⟨k, x, h⟩ | h
  · exact (D_mask hD e).2 k (q, x) h
  · exact hA q (Nat.le_trans hS.1 h)
theorem x_joinM {A0 : Nat → Prop} {D : va_G} {ws wc w1 ws' : va_W} {tys : List (ClassId × FieldType)} {H H1 : Heap} {t : State} {m : List Bool} (hP : va_P D vwCl ws H) (hD : va_D A0 ws) (e : pickT m ws = wc)
    (hk : ∀ q : Nat, q < H.size → ¬ va_A wc H.size q → H1[q]? = H[q]?) (ht : t.heap = H1) (hB : posB D w1 tys (va_A wc H.size) t) (hf : wc.map (fun q => q.1) = w1.map (fun q => q.1)) (hm : mergeW m w1 ws = ws') : va_P D vwCl ws' H1 ∧ va_D A0 ws' := by
  obtain ⟨hP1, -, hD1⟩ := hB
  rw [ht] at hP1
  subst e; subst hm
  have h1 := D_nd.mp hD
  refine ⟨P_mem.mpr (fun q hq => ?_), D_nd.mpr ⟨by rw [mergeW_fst m ws w1 hf]; exact h1.1, fun q hq => ?_⟩⟩
  · rcases mergeW_mem m ws w1 q hf hq with g | g
    · exact P_mem.mp hP1 q g
    · have hq0 := P_mem.mp hP q ((pickF_sub m ws).subset g)
      refine hq0.kept (hk q.1 hq0.lt (fun z => ?_))
      rcases z with ⟨k, x, z⟩ | z
      · have hz : (q.1, x) ∈ pickT m ws := List.mem_of_getElem? z
        exact pick_apart m ws q h1.1 g (List.mem_map.mpr ⟨(q.1, x), hz, rfl⟩)
      · have := hq0.lt; omega
  · have hx : q.1 ∈ (mergeW m w1 ws).map (fun q => q.1) := List.mem_map_of_mem (f := fun q : Nat × va_E => q.1) hq
    rw [mergeW_fst m ws w1 hf] at hx
    obtain ⟨y, hy, e⟩ := List.mem_map.mp hx
    rw [← e]; exact h1.2 y hy
