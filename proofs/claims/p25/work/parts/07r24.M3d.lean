/-! p25: same has its answer -/
theorem same_some {T : TV} {q bl st : Nat → Int32} {me : Nat → Int64} (r : RTv T st) (L : LB bl me st) (Q : QI q st) (R : RV) (Y : HV) (B : Nat → Int32) (P : PV) (p2 : Int32) : ∃ z : RV × (Nat → Int32), den_L_same q bl me T R Y B P p2 = some z := by
  have w := r.1
  have hF := FF_410 L
  obtain ⟨R1, e1⟩ := l_first r L Q.2.1 Q.2.2.1 Q.2.2.2.1 R B
  have e2 := l_sil_L w L Q.2.1 Q.2.2.2.2 (FF st (nB st)) FU 0 (by omega) (by rw [FU_eq]; omega)
  rw [show nI (siN st 0) = (0 : Int32) from rfl, show nI (baN st 0) = (0 : Int32) from rfl, show nI 0 = (0 : Int32) from rfl] at e2
  obtain ⟨R2, e3⟩ := mid_L r L Q R1 B p2
  obtain ⟨z, e4⟩ := end_L r L Q R2 B P Y (q1 := (nI (setN (gL st 0) (nB st)), nI (setN (gL st 1) (nB st)), nI (rS st (nB st)), R1, B)) (q2 := (nI (siN st (FF st (nB st))), nI (baN st (FF st (nB st))))) rfl rfl rfl rfl rfl
  refine ⟨z, ?_⟩
  unfold den_L_same
  rw [e1, bnd_s, e2, bnd_s]
  refine (congrArg (fun o => bnd o _) e3).trans ?_
  exact e4
