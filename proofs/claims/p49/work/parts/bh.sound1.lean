section SN1
variable {w h : Nat} {r : Bool} {S : Nat → Bool} {z : tq_S} {Q : tq_O → tq_S → Prop}
theorem sn_roles (hd : jd w h r S) (hj : jc w h r S z) (hc : tq_fi z 1220 = tq_fi z 68 → ∃ m, PR w r S m z) (k : ∀ z' m, fr FP z z' → tq_fi z' 1220 = tq_fi z 68 → PR w r S m z' → Q (.inl (some (.int 1))) z') : wm_X11_rolesAreSound z Q := by
  unfold wm_X11_rolesAreSound
  refine sq_refresh hd hj hc (fun z1 m f1 e1 p1 => ⟨rfl, sp_bc ⟨_, rfl, sp_bc ⟨_, rfl, sp_bc ⟨_, rfl, ?_⟩⟩⟩⟩)
  have s3 := rs_3 hd p1.1
  have s1 : fb_ct (ct (tq_fl z1 1221)) 64 = fb_ct (fun x => S x && decide (m x = x)) 64 := fb_ct_cong p1.2
  dsimp only
  rw [s1, pk_sub (by omega), show fb_ct (ct (tq_fl z1 1222)) 64 - fb_ct (ct (tq_fl z1 1223)) 64 = fb_ct (fun x => S x && decide (m x = x)) 64 by omega]
  exact ⟨fun u => absurd rfl u, fun _ => k z1 m f1 e1 p1⟩
end SN1
