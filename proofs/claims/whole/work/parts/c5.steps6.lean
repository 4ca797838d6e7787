/-! ===== the law, call by call: st6 ===== -/
theorem lz_2538 {K : Nat × (Nat → Int32)} {B : Int32 → tq_S → Prop} {Q : tq_O → tq_S → Prop} {a : Int32} {z : tq_S} {n : Nat} (hn : n < 512) (i1 : vp_in (a + 1) K.1) (i2 : vp_in (a + 2) K.1) (i3 : vp_in (a + 3) K.1) (hB : ∀ z', J (n + 1) z' → B (a + 4) z') (hJ : J n z) : wc_law_2538 K B Q a z := by
  obtain ⟨w, h, r, S, kN, C, M, Z, A, T, hJ⟩ := hJ
  have dn : ∀ z', Jj (n + 1) w h r S kN C M Z A T z' → wc_law_2748 K B Q a z' := fun z' j => gl_g (hB z' ⟨w, h, r, S, kN, C, M, Z, A, T, j⟩)
  obtain ⟨jb, jv, jk, ju, jt, js, jf, jh, jp, jx, ji⟩ := id hJ
  have hd := jb.1
  have hj := jb.2.1
  have hr := jb.2.2
  have hw8 := hd.2.1
  have hh8 := hd.2.2.2.1
  have n1 : ¬ (1 : Int32) = 0 := by decide +kernel
  have n2 : ¬ (2 : Int32) = 0 := by decide +kernel
  have n3 : ¬ (3 : Int32) = 0 := by decide +kernel
  have main : ∀ D : Int32, (K.2 (Int32.toNatClampNeg (a + (3 : Int32))) = 0 → D = 0) → (¬ K.2 (Int32.toNatClampNeg (a + (3 : Int32))) = 0 → D = 1) → wc_law_2565 K B Q a D (K.2 (Int32.toNatClampNeg (a + (2 : Int32)))) (K.2 (Int32.toNatClampNeg (a + (1 : Int32)))) z := by
    intro D d0 d1
    have pick : ∀ {k : Int32} {zz : tq_S}, wc_law_2599 K B Q a k D (K.2 (Int32.toNatClampNeg (a + (2 : Int32)))) (K.2 (Int32.toNatClampNeg (a + (1 : Int32)))) zz → vp_in (a + (1 : Int32)) K.1 ∧ vp_in (a + (2 : Int32)) K.1 ∧ vp_in (a + (3 : Int32)) K.1 ∧ ((K.2 (Int32.toNatClampNeg (a + (3 : Int32))) = (0 : Int32) → wc_law_2599 K B Q a k (0 : Int32) (K.2 (Int32.toNatClampNeg (a + (2 : Int32)))) (K.2 (Int32.toNatClampNeg (a + (1 : Int32)))) zz) ∧ (¬ K.2 (Int32.toNatClampNeg (a + (3 : Int32))) = (0 : Int32) → wc_law_2599 K B Q a k (1 : Int32) (K.2 (Int32.toNatClampNeg (a + (2 : Int32)))) (K.2 (Int32.toNatClampNeg (a + (1 : Int32)))) zz)) := by
      intro k zz hh
      refine ⟨i1, i2, i3, fun q => ?_, fun q => ?_⟩
      · have e := d0 q
        rw [e] at hh
        exact hh
      · have e := d1 q
        rw [e] at hh
        exact hh
    unfold wc_law_2565 wm_L_share
    refine sc_share3 hd hj jf jh (fun q => Or.inr (Or.inl ⟨rfl, _, rfl, pick ?_⟩)) (fun x y o hp q z1 f1 g1 s1 => Or.inr (Or.inr ⟨rfl, _, rfl, pick ?_⟩)) (fun x y o hp q z1 f1 v1 s1 c1 s4 => Or.inl ⟨_, rfl, share_d (pc_big hd (fun j hj => (cv_rm_t.mp hj).1)) (by have := T_b hd; omega) q, fun z2 e2 => ⟨_, rfl, pick ?_⟩⟩)
    · unfold wc_law_2599
      exact sr_share hd hr (fun _ z' f e => ⟨_, rfl, gl_tf n1 e (dn z' (Jj_f f (by decide) (by decide) hJ))⟩) (fun x y o hp => absurd hp (q x y o)) (fun x y o hp => absurd hp (q x y o))
    · unfold wc_law_2599
      refine sr_share hd (jbrd_f f1 (by decide) jb).2.2 (fun q2 => absurd hp (q2 x y o)) (fun x' y' o' hp' _ z3 f3 e => ⟨_, rfl, gl_tf n2 e (dn z3 ?_)⟩) (fun x' y' o' hp' q2 => absurd q (by omega))
      have g := gl_2 f1 f3
      exact (Jj_c g (by decide) (jtxt_f g (by decide) jt) (Or.inr (by rw [fr_fi (k := 134) f3 (by decide), s1, fr_fi f1 (by decide)])) (Or.inl (fr_fi g (by decide))) (Or.inl (fr_fi g (by decide))) (Or.inl (fr_fi g (by decide))) (Or.inl (fr_fi g (by decide))) (fun _ => fro_f f3 (by decide) g1) (jhav_f g (by decide) jh) (jpr_f g (by decide) jp) (jexc_f g (by decide) jx) hJ)
    · unfold wc_law_2599
      have g12 := gl_2 f1 (gl_d e2)
      refine sr_share hd (jbrd_f g12 (by decide) jb).2.2 (fun q2 => absurd hp (q2 x y o)) (fun x' y' o' hp' q2 => absurd q2 (by omega)) (fun x' y' o' hp' _ z3 f3 e3 => ?_)
      obtain ⟨u1, u2, u3⟩ := pcn_u hw8 hh8 hp hp'
      subst u1
      subst u2
      subst u3
      have sd := share_d (a := cv_T w r 0 (cv_rm S (8 * y' + x') o')) (b := cv_T w r 0 S) (pc_big hd (fun j hj => (cv_rm_t.mp hj).1)) (by have := T_b hd; omega) q
      have g := gl_2 g12 f3
      have g13 := gl_2 (gl_d e2) f3
      refine ⟨_, rfl, gl_af e3 sd (gl_od e2 f3 (by decide)) (dn z3 (Jj_c g (by decide) (jtxt_f g (by decide) jt) ?_ (Or.inr (by rw [fr_fi (k := 135) g13 (by decide), s1, fr_fi f1 (by decide)])) (Or.inl (fr_fi g (by decide))) (Or.inl (fr_fi g (by decide))) (Or.inl (fr_fi g (by decide))) (jfro_f g13 (by decide) c1) (jhav_f g13 (by decide) (fun _ => v1)) (jpr_f g (by decide) jp) (jexc_f g (by decide) jx) hJ))⟩
      rw [fr_fi g13 (by decide)]
      rcases s4 with e | e
      · exact Or.inl e
      · exact Or.inr (e.trans (fr_fi f1 (by decide)))
  unfold wc_law_2538
  exact ⟨i1, i2, i3, fun q => main 0 (fun _ => rfl) (fun q2 => absurd q q2), fun q => main 1 (fun q2 => absurd q2 q) (fun _ => rfl)⟩
theorem lz_2656 {K : Nat × (Nat → Int32)} {B : Int32 → tq_S → Prop} {Q : tq_O → tq_S → Prop} {a : Int32} {z : tq_S} {n : Nat} (hn : n < 512) (i1 : vp_in (a + 1) K.1) (i2 : vp_in (a + 2) K.1) (i3 : vp_in (a + 3) K.1) (hB : ∀ z', J (n + 1) z' → B (a + 4) z') (hJ : J n z) : wc_law_2656 K B Q a z := by
  obtain ⟨w, h, r, S, kN, C, M, Z, A, T, hJ⟩ := hJ
  have dn : ∀ z', Jj (n + 1) w h r S kN C M Z A T z' → wc_law_2748 K B Q a z' := fun z' j => gl_g (hB z' ⟨w, h, r, S, kN, C, M, Z, A, T, j⟩)
  obtain ⟨jb, jv, jk, ju, jt, js, jf, jh, jp, jx, ji⟩ := id hJ
  have hd := jb.1
  have hj := jb.2.1
  have hr := jb.2.2
  have hw8 := hd.2.1
  have hh8 := hd.2.2.2.1
  have n1 : ¬ (1 : Int32) = 0 := by decide +kernel
  have n2 : ¬ (2 : Int32) = 0 := by decide +kernel
  have n3 : ¬ (3 : Int32) = 0 := by decide +kernel
  unfold wc_law_2656 wm_L_meanPart
  exact sc_meanPart hd hj (fun q => Or.inr ⟨rfl, _, rfl, sr_meanPart hd hr (fun _ z' f e => ⟨_, rfl, gl_tf n1 e (dn z' (Jj_f f (by decide) (by decide) hJ))⟩) (fun q2 => absurd q (by omega))⟩) (fun q => Or.inl ⟨_, rfl, fun z2 e2 => ⟨_, rfl, sr_meanPart hd (jbrd_f (gl_d e2) (by decide) jb).2.2 (fun q2 => absurd q2 (by omega)) (fun _ z3 f3 e3 => ⟨_, rfl, gl_ad e3 (mean_n (fb_ct_le _ _) (gr_b64 hd) (gr_n0 hd q)) (gl_od e2 f3 (by decide)) (dn z3 (Jj_f (gl_2 (gl_d e2) f3) (by decide) (by decide) hJ))⟩)⟩⟩)
theorem lz_2721 {K : Nat × (Nat → Int32)} {B : Int32 → tq_S → Prop} {Q : tq_O → tq_S → Prop} {a : Int32} {z : tq_S} {n : Nat} (hn : n < 512) (i1 : vp_in (a + 1) K.1) (i2 : vp_in (a + 2) K.1) (i3 : vp_in (a + 3) K.1) (hB : ∀ z', J (n + 1) z' → B (a + 4) z') (hJ : J n z) : wc_law_2721 K B Q a z := by
  obtain ⟨w, h, r, S, kN, C, M, Z, A, T, hJ⟩ := hJ
  have dn : ∀ z', Jj (n + 1) w h r S kN C M Z A T z' → wc_law_2748 K B Q a z' := fun z' j => gl_g (hB z' ⟨w, h, r, S, kN, C, M, Z, A, T, j⟩)
  obtain ⟨jb, jv, jk, ju, jt, js, jf, jh, jp, jx, ji⟩ := id hJ
  have hd := jb.1
  have hj := jb.2.1
  have hr := jb.2.2
  have hw8 := hd.2.1
  have hh8 := hd.2.2.2.1
  have n1 : ¬ (1 : Int32) = 0 := by decide +kernel
  have n2 : ¬ (2 : Int32) = 0 := by decide +kernel
  have n3 : ¬ (3 : Int32) = 0 := by decide +kernel
  obtain ⟨b0, p, x1, x2, x3⟩ := jv
  have xc : b0 = true → cvo w r S p (tq_fl z 517) (tq_fl z 518) := fun q => (x3 q).1
  have xr : ∀ {F : List (Nat × Nat)} {zz : tq_S}, fr F z zz → (2, 56) ∉ F → b0 = true → pc w r S p ∧ rto w r S (fun _ => false) p (tq_ai zz 56) := fun g hg q => ⟨(x3 q).1.1, by rw [fr_ai g hg]; exact (x3 q).2⟩
  obtain ⟨kd, kr, ks, kt, kt2, kw, k6, kf⟩ := ji
  obtain ⟨l, tc, tr, hl⟩ := jt
  unfold wc_law_2721
  refine sc_checksum (A := fun k => nI (C k)) (B := fun k => nI (M k)) hd hj x1 xc kd.2.1 kd.1 (fun j hj => (kd.2.2 j hj).1.1) (fun j hj => (kd.2.2 j hj).2.1.1) tc ⟨_, rfl, sr_checksum (A := fun k => nI (C k)) (B := fun k => nI (M k)) hd hr x2 (fun q => (x3 q).2) kr.2.1 kr.1 (fun j hj => (kr.2.2 j hj).1.1) (fun j hj => (kr.2.2 j hj).2.1) tr tc.2.2 (fun z' f => ⟨_, rfl, fun _ => dn z' (Jj_f f (by decide) (by decide) hJ), fun ne => absurd rfl ne⟩)⟩
theorem lz_2735 {K : Nat × (Nat → Int32)} {B : Int32 → tq_S → Prop} {Q : tq_O → tq_S → Prop} {a : Int32} {z : tq_S} {n : Nat} (hn : n < 512) (i1 : vp_in (a + 1) K.1) (i2 : vp_in (a + 2) K.1) (i3 : vp_in (a + 3) K.1) (hB : ∀ z', J (n + 1) z' → B (a + 4) z') (hJ : J n z) : wc_law_2735 K B Q a z := by
  obtain ⟨w, h, r, S, kN, C, M, Z, A, T, hJ⟩ := hJ
  have dn : ∀ z', Jj (n + 1) w h r S kN C M Z A T z' → wc_law_2748 K B Q a z' := fun z' j => gl_g (hB z' ⟨w, h, r, S, kN, C, M, Z, A, T, j⟩)
  obtain ⟨jb, jv, jk, ju, jt, js, jf, jh, jp, jx, ji⟩ := id hJ
  have hd := jb.1
  have hj := jb.2.1
  have hr := jb.2.2
  have hw8 := hd.2.1
  have hh8 := hd.2.2.2.1
  have n1 : ¬ (1 : Int32) = 0 := by decide +kernel
  have n2 : ¬ (2 : Int32) = 0 := by decide +kernel
  have n3 : ¬ (3 : Int32) = 0 := by decide +kernel
  obtain ⟨b0, p, x1, x2, x3⟩ := jv
  have xc : b0 = true → cvo w r S p (tq_fl z 517) (tq_fl z 518) := fun q => (x3 q).1
  have xr : ∀ {F : List (Nat × Nat)} {zz : tq_S}, fr F z zz → (2, 56) ∉ F → b0 = true → pc w r S p ∧ rto w r S (fun _ => false) p (tq_ai zz 56) := fun g hg q => ⟨(x3 q).1.1, by rw [fr_ai g hg]; exact (x3 q).2⟩
  obtain ⟨kd, kr, ks, kt, kt2, kw, k6, kf⟩ := ji
  have kM : ∀ j, j < kN → M j ≤ 8 := fun j hj => (kd.2.2 j hj).2.1.2
  have kZ : ∀ k, k < kN → 3 ≤ Z k := fun k hk => (kd.2.2 k hk).2.2.1.2.1
  have hT : fb_ct S 64 ≤ 24 → ∀ P f st g z', exc w h r S kN C M Z A P f st g z' → exn (fb_ct S 64) P f kN M < 2147483648 := fun h24 P f st g z' hx => exn_b hd kd ks kf h24 hx
  have jx0 : tq_fi z 1807 = tq_fi z 68 → tq_fi z 1808 = tq_fi z 1478 → ∃ P f st g, exc w h r S kN C M Z A P f st g z := fun a1 a2 => (by obtain ⟨P, f, st, g, b1, _⟩ := jx a1 a2; exact ⟨P, f, st, g, b1⟩)
  unfold wc_law_2735 wm_X12_isSound
  refine sc_isSound hd hj jf jh x1 xc jp kd ks hT jx (fun z1 f1 c1 c2 c3 c4 s1 s2 s3 s4 s5 => ⟨_, rfl, fun z3 e3 => ⟨_, rfl, fun _ => dn z3 ?_, fun ne => absurd rfl ne⟩⟩)
  have f3 : fr [(0, 3264)] z1 z3 := by rw [e3]; exact fr_sfi (by decide) fr_r
  have g := gl_2 f1 f3
  exact Jj_c g (by decide) (jtxt_f g (by decide) jt) (by rw [fr_fi f3 (by decide)]; exact s1) (by rw [fr_fi f3 (by decide)]; exact s2) (by rw [fr_fi f3 (by decide)]; exact s3) (by rw [fr_fi f3 (by decide)]; exact s4) (by rw [fr_fi f3 (by decide)]; exact s5) (jfro_f f3 (by decide) c1) (jhav_f f3 (by decide) c2) (jpr_f f3 (by decide) c3) (jexc_f f3 (by decide) c4) hJ
theorem lz_2748 {K : Nat × (Nat → Int32)} {B : Int32 → tq_S → Prop} {Q : tq_O → tq_S → Prop} {a : Int32} {z : tq_S} {n : Nat} (hn : n < 512) (i1 : vp_in (a + 1) K.1) (i2 : vp_in (a + 2) K.1) (i3 : vp_in (a + 3) K.1) (hB : ∀ z', J (n + 1) z' → B (a + 4) z') (hJ : J n z) : wc_law_2748 K B Q a z := by
  obtain ⟨w, h, r, S, kN, C, M, Z, A, T, hJ⟩ := hJ
  have dn : ∀ z', Jj (n + 1) w h r S kN C M Z A T z' → wc_law_2748 K B Q a z' := fun z' j => gl_g (hB z' ⟨w, h, r, S, kN, C, M, Z, A, T, j⟩)
  obtain ⟨jb, jv, jk, ju, jt, js, jf, jh, jp, jx, ji⟩ := id hJ
  have hd := jb.1
  have hj := jb.2.1
  have hr := jb.2.2
  have hw8 := hd.2.1
  have hh8 := hd.2.2.2.1
  have n1 : ¬ (1 : Int32) = 0 := by decide +kernel
  have n2 : ¬ (2 : Int32) = 0 := by decide +kernel
  have n3 : ¬ (3 : Int32) = 0 := by decide +kernel
  exact dn z (Jj_f (F := []) fr_r (by decide) (by decide) hJ)
