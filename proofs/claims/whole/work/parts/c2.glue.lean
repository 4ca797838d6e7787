/-! ===== the law's steps with doubles ===== -/
section GLY
variable {z : tq_S} {G Rest BAD : tq_S → Prop} {k : Int32} {v : UInt32} {d : UInt64}
theorem cmp_self {d : UInt64} (h : vf_n64 d) : Op.cmpValue (FP.dcmp d d) .l = 0 := by
  rw [dcmp_n h]; rfl
theorem gl_tf (hk : ¬ k = 0) (e : tq_fi z 3264 = k) (g : G z) : wm_X12_thrown z (tq_wi fun r106 z105 => ((r106 = k → ((¬ k = 0 → G z105) ∧ (k = 0 → Rest z105))) ∧ (¬ r106 = k → BAD z105))) := by
  unfold wm_X12_thrown
  exact ⟨_, rfl, fun _ => ⟨fun _ => g, fun h => absurd h hk⟩, fun h => absurd e h⟩
theorem gl_af (e : tq_fi z 3264 = 0) (sd : vf_n64 (FP.f2d v)) (o : tq_ad z 88 (Int32.toNatClampNeg (0 : Int32)) = FP.f2d v) (g : G z) : wm_X12_thrown z (tq_wi fun r106 z105 => ((r106 = (0 : Int32) → ((¬ (0 : Int32) = 0 → G z105) ∧ ((0 : Int32) = 0 → vf_n64 (FP.f2d v) ∧ (((Op.cmpValue (FP.dcmp (tq_ad z105 88 (Int32.toNatClampNeg (0 : Int32))) (FP.f2d v)) .l) = (0 : Int32) → G z105) ∧ (¬ (Op.cmpValue (FP.dcmp (tq_ad z105 88 (Int32.toNatClampNeg (0 : Int32))) (FP.f2d v)) .l) = (0 : Int32) → Rest z105))))) ∧ (¬ r106 = (0 : Int32) → BAD z105))) := by
  unfold wm_X12_thrown
  exact ⟨_, rfl, fun _ => ⟨fun _ => g, fun _ => ⟨sd, fun _ => g, fun h => absurd (by rw [o]; exact cmp_self sd) h⟩⟩, fun h => absurd e h⟩
theorem gl_ad (e : tq_fi z 3264 = 0) (sd : vf_n64 d) (o : tq_ad z 88 (Int32.toNatClampNeg (0 : Int32)) = d) (g : G z) : wm_X12_thrown z (tq_wi fun r106 z105 => ((r106 = (0 : Int32) → ((¬ (0 : Int32) = 0 → G z105) ∧ ((0 : Int32) = 0 → (((Op.cmpValue (FP.dcmp (tq_ad z105 88 (Int32.toNatClampNeg (0 : Int32))) d) .l) = (0 : Int32) → G z105) ∧ (¬ (Op.cmpValue (FP.dcmp (tq_ad z105 88 (Int32.toNatClampNeg (0 : Int32))) d) .l) = (0 : Int32) → Rest z105))))) ∧ (¬ r106 = (0 : Int32) → BAD z105))) := by
  unfold wm_X12_thrown
  exact ⟨_, rfl, fun _ => ⟨fun _ => g, fun _ => ⟨fun _ => g, fun h => absurd (by rw [o]; exact cmp_self sd) h⟩⟩, fun h => absurd e h⟩
end GLY
