/-! a contract over a larger world, by a mask -/
section TM
variable {D : va_G} {tys : List (ClassId × FieldType)}
theorem wm_F {w wc : va_W} {sz : Nat} {m : List Bool} (e : pickT m w = wc) : ∀ q, va_A wc sz q → va_A w sz q := fun q h => by
  rcases h with ⟨k2, x, h⟩ | h
  · have h1 : (q, x) ∈ pickT m w := by rw [e]; exact List.mem_of_getElem? h
    obtain ⟨i, hi⟩ := List.getElem?_of_mem ((pickT_sub m w).subset h1)
    exact Or.inl ⟨i, x, hi⟩
  · exact Or.inr h
theorem met_wmi {l : Launch} {y : MethodName} {wds : List Cond} {rm : Room} {av : List Value} {sz : Nat} {x : Int32} {w w' wc wc' : va_W} (h : Met l y wds rm (va_Pc av (preB sz D wc tys)) (va_Qi (S := Unit) (fun v _ => v = x) (fun _ t => posB D wc' tys (va_A wc sz) t) (va_A wc sz)) 0 0 (va_A wc sz))
    (m : List Bool) (e : pickT m w = wc) (hf : wc.map (fun q => q.1) = wc'.map (fun q => q.1)) (hm : mergeW m wc' w = w') :
    Met l y wds rm (va_Pc av (preB sz D w tys)) (va_Qi (S := Unit) (fun v _ => v = x) (fun _ t => posB D w' tys (va_A w sz) t) (va_A w sz)) 0 0 (va_A w sz) := by
  have hF := wm_F (sz := sz) e
  refine Free.MetFree.mono h (fun a s hp => ?_) (fun _ _ _ _ _ h => h) (fun a s o s' hp hq => ?_)
  · obtain ⟨h0, h1, hP, hK, hD, hN⟩ := hp
    exact ⟨h0, h1, P_mask hP e, hK, D_mask hD e, hN⟩
  · obtain ⟨⟨⟨v, u, ho, hv, hB⟩, hz, hk⟩, Lc, hL, hf2⟩ := hq
    obtain ⟨h0, h1, hP, hK, hD, hN⟩ := hp
    subst h1
    obtain ⟨hP1, hD1⟩ := x_joinM hP (hD.self) e hk rfl hB hf hm
    exact ⟨⟨⟨v, u, ho, hv, hP1, hB.2.1, hD1⟩, hz, fun q h2 h3 => hk q h2 (fun z => h3 (hF q z))⟩, Lc, hL, fun q hq => hF _ (hf2 q hq)⟩
theorem met_wml {l : Launch} {y : MethodName} {wds : List Cond} {rm : Room} {av : List Value} {sz : Nat} {x : Int64} {w w' wc wc' : va_W} (h : Met l y wds rm (va_Pc av (preB sz D wc tys)) (va_Ql (S := Unit) (fun v _ => v = x) (fun _ t => posB D wc' tys (va_A wc sz) t) (va_A wc sz)) 0 0 (va_A wc sz))
    (m : List Bool) (e : pickT m w = wc) (hf : wc.map (fun q => q.1) = wc'.map (fun q => q.1)) (hm : mergeW m wc' w = w') :
    Met l y wds rm (va_Pc av (preB sz D w tys)) (va_Ql (S := Unit) (fun v _ => v = x) (fun _ t => posB D w' tys (va_A w sz) t) (va_A w sz)) 0 0 (va_A w sz) := by
  have hF := wm_F (sz := sz) e
  refine Free.MetFree.mono h (fun a s hp => ?_) (fun _ _ _ _ _ h => h) (fun a s o s' hp hq => ?_)
  · obtain ⟨h0, h1, hP, hK, hD, hN⟩ := hp
    exact ⟨h0, h1, P_mask hP e, hK, D_mask hD e, hN⟩
  · obtain ⟨⟨⟨v, u, ho, hv, hB⟩, hz, hk⟩, Lc, hL, hf2⟩ := hq
    obtain ⟨h0, h1, hP, hK, hD, hN⟩ := hp
    subst h1
    obtain ⟨hP1, hD1⟩ := x_joinM hP (hD.self) e hk rfl hB hf hm
    exact ⟨⟨⟨v, u, ho, hv, hP1, hB.2.1, hD1⟩, hz, fun q h2 h3 => hk q h2 (fun z => h3 (hF q z))⟩, Lc, hL, fun q hq => hF _ (hf2 q hq)⟩
end TM
