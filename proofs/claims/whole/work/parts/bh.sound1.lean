/-! ===== isSound: counts and roles ===== -/
section SN1
variable {w h : Nat} {r : Bool} {S : Nat → Bool} {z : tq_S} {Q : tq_O → tq_S → Prop}
theorem sn_counts (hd : jd w h r S) (hj : jc w h r S z) (hc : tq_fi z 134 = tq_fi z 68 → fro w h r S z) (k : ∀ z', fr [(3, 3), (3, 4), (0, 134), (3, 17), (3, 18)] z z' → (tq_fi z' 134 = tq_fi z' 68 → fro w h r S z') → Q (.inl (some (.int 1))) z') : wm_X11_countsAgree z Q := by
  unfold wm_X11_countsAgree
  refine sc_plain hd hj ⟨_, rfl, fun q => ?_, fun q => ?_⟩
  · exact k z fr_r hc
  · rw [bi_n] at q
    simp only [Bool.and_eq_true, Bool.not_eq_true', decide_eq_true_eq] at q
    obtain ⟨rfl, g⟩ := q
    refine sq_total hd hj hc (fun z1 f1 c1 e1 => ⟨_, rfl, ?_⟩)
    have j1 := jc_f f1 (by decide) (by decide) (by decide) (by decide) hj
    refine sq_signs hd g j1 (fun z2 f2 => ⟨_, rfl, fun u => absurd rfl u, fun _ => ?_⟩)
    refine k z2 (fr_t (fr_m (by decide) f1) (fr_m (by decide) f2)) (fun _ => fro_f f2 (by decide) c1)
theorem sn_number {p : Nat → Nat} {b0 : Bool} (hd : jd w h r S) (hj : jc w h r S z) (hc : tq_fi z 134 = tq_fi z 68 → fro w h r S z) (hb : tq_fi z 516 = bi b0) (hp : b0 = true → cvo w r S p (tq_fl z 517) (tq_fl z 518)) (k : ∀ z', fr [(3, 3), (3, 4), (0, 134), (1, 136), (1, 137)] z z' → (tq_fi z' 134 = tq_fi z' 68 → fro w h r S z') → Q (.inl (some (.int 1))) z') : wm_X11_numberIsSound z Q := by
  have hT := T_b hd
  unfold wm_X11_numberIsSound
  rw [hb]
  refine ⟨fun q => ?_, fun q => k z fr_r hc⟩
  rw [bi_n] at q
  have hp := hp q
  obtain ⟨rb, ru⟩ := rk_ok hd.2.1 (jd_r hd) rfl (jd_bh hd) hp.1
  refine sq_total hd hj hc (fun z1 f1 g1 c1 => ⟨_, rfl, ?_⟩)
  have j1 := jc_f f1 (by decide) (by decide) (by decide) (by decide) hj
  refine sq_crank hd j1 g1 hp.1 (by rw [fr_fl f1 (by decide)]; exact hp.2.1) (by rw [fr_fl f1 (by decide)]; exact hp.2.2) (fun z2 f2 => ⟨_, rfl, ?_⟩)
  have j2 := jc_f f2 (by decide) (by decide) (by decide) (by decide) j1
  have g2 := fro_f f2 (by decide) g1
  refine sq_cmake hd j2 g2 rb (fun z3 f3 m3 n3 => ⟨rfl, ?_⟩)
  have f13 : fr [(3, 3), (3, 4), (0, 134), (1, 136), (1, 137)] z z3 := fr_t (fr_m (by decide) f1) (fr_t (fr_m (by decide) f2) (fr_m (by decide) f3))
  have j3 := jc_f f3 (by decide) (by decide) (by decide) (by decide) j2
  have g3 := fro_f f3 (by decide) g2
  have eR : tq_fl z3 136 = tq_fl z3 517 := ct_ext fun i _ => by
    rw [m3, fr_fl f13 (by decide), hp.2.1]
    cases si : S i
    · rfl
    · unfold Rp
      rw [ru i si]
  have eD : tq_fl z3 137 = tq_fl z3 518 := ct_ext fun i _ => by
    rw [n3, fr_fl f13 (by decide), hp.2.2]
    cases si : S i
    · rfl
    · unfold Dp
      rw [ru i si]
  have fin : wc_X11_numberIsSound_91 Q (lN (cv_T w r 0 S)) (lN (rk w r 0 S p)) 1 z3 := by
    unfold wc_X11_numberIsSound_91
    rw [l_1, l_add, pk_lLT (by omega) (by omega)]
    refine ⟨fun u => ?_, fun u => ⟨Or.inr rfl, k z3 f13 (fun _ => g3)⟩⟩
    refine sq_cmake hd j3 g3 u (fun z4 f4 m4 n4 => ⟨rfl, ?_⟩)
    have j4 := jc_f f4 (by decide) (by decide) (by decide) (by decide) j3
    have g4 := fro_f f4 (by decide) g3
    obtain ⟨o1, o2⟩ := ur_ok hd.2.1 (jd_r hd) rfl (jd_bh hd) u
    refine ⟨fun x => absurd x (by decide +kernel), fun _ => sq_crank hd j4 g4 o1 m4 n4 (fun z5 f5 => ⟨_, rfl, ?_⟩)⟩
    rw [o2]
    exact ⟨fun x => absurd rfl x, fun _ => k z5 (fr_t f13 (fr_t (fr_m (by decide) f4) (fr_m (by decide) f5))) (fun _ => fro_f f5 (by decide) g4)⟩
  exact ⟨fun x => absurd eR x, fun _ => ⟨fun x => absurd eD x, fun _ => fin⟩⟩
theorem sn_roles (hd : jd w h r S) (hj : jc w h r S z) (hc : tq_fi z 1220 = tq_fi z 68 → ∃ m, PR w r S m z) (k : ∀ z' m, fr FP z z' → tq_fi z' 1220 = tq_fi z 68 → PR w r S m z' → Q (.inl (some (.int 1))) z') : wm_X11_rolesAreSound z Q := by
  unfold wm_X11_rolesAreSound
  refine sq_refresh hd hj hc (fun z1 m f1 e1 p1 => ⟨rfl, sp_bc ⟨_, rfl, sp_bc ⟨_, rfl, sp_bc ⟨_, rfl, ?_⟩⟩⟩⟩)
  have s3 := rs_3 hd p1.1
  have s1 : fb_ct (ct (tq_fl z1 1221)) 64 = fb_ct (fun x => S x && decide (m x = x)) 64 := fb_ct_cong p1.2
  dsimp only
  rw [s1, pk_sub (by omega), show fb_ct (ct (tq_fl z1 1222)) 64 - fb_ct (ct (tq_fl z1 1223)) 64 = fb_ct (fun x => S x && decide (m x = x)) 64 by omega]
  exact ⟨fun u => absurd rfl u, fun _ => k z1 m f1 e1 p1⟩
end SN1
