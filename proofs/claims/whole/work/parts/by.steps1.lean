/-! ===== the law, call by call: st1 ===== -/
theorem lz_244 {K : Nat × (Nat → Int32)} {B : Int32 → tq_S → Prop} {Q : tq_O → tq_S → Prop} {a : Int32} {z : tq_S} {n : Nat} (hn : n < 512) (i1 : vp_in (a + 1) K.1) (i2 : vp_in (a + 2) K.1) (i3 : vp_in (a + 3) K.1) (hB : ∀ z', J (n + 1) z' → B (a + 4) z') (hJ : J n z) : wc_law_244 K B Q a z := by
  obtain ⟨w, h, r, S, kN, C, M, Z, A, T, hJ⟩ := hJ
  have dn : ∀ z', Jj (n + 1) w h r S kN C M Z A T z' → wc_law_2748 K B Q a z' := fun z' j => gl_g (hB z' ⟨w, h, r, S, kN, C, M, Z, A, T, j⟩)
  obtain ⟨jb, jv, jk, ju, jt, js, jf, jh, jp, jx, ji⟩ := id hJ
  have hd := jb.1
  have hj := jb.2.1
  have hr := jb.2.2
  have hw8 := hd.2.1
  have hh8 := hd.2.2.2.1
  have n1 : ¬ (1 : Int32) = 0 := by decide +kernel
  have n2 : ¬ (2 : Int32) = 0 := by decide +kernel
  have n3 : ¬ (3 : Int32) = 0 := by decide +kernel
  unfold wc_law_244 wm_L_board
  refine ⟨i1, i2, sc_board (fun q => Or.inr ⟨rfl, _, rfl, i1, i2, sr_board (fun _ z' f e => ⟨_, rfl, gl_t n1 e (dn z' (Jj_f f (by decide) (by decide) hJ))⟩) (fun w' h' ex ey a1 a2 a3 a4 => (c_bd q ex ey a1 a2 a3 a4).elim)⟩) (fun w1 h1 ex ey a1 a2 a3 a4 z1 c1 => Or.inl ⟨_, rfl, fun z2 e2 => ⟨_, rfl, i1, i2, sr_board (fun q => (c_bd q ex ey a1 a2 a3 a4).elim) (fun w2 h2 ex2 ey2 b1 b2 b3 b4 z3 c3 => ?_)⟩⟩)⟩
  have u1 : w2 = w1 := nI_u (by omega) (by omega) (ex2.symm.trans ex)
  have u2 : h2 = h1 := nI_u (by omega) (by omega) (ey2.symm.trans ey)
  subst u1
  subst u2
  exact ⟨_, rfl, gl_a c3.2.2.1 (gl_o e2 c3.1 (by decide)) (gl_g (hB z3 ⟨_, _, _, _, kN, C, M, Z, A, T, Jj_n hn ⟨a1, a2, a3, a4, fun q => (by cases q), re_re a4⟩ c1 (gl_f e2) c3 hJ⟩))⟩
theorem lz_312 {K : Nat × (Nat → Int32)} {B : Int32 → tq_S → Prop} {Q : tq_O → tq_S → Prop} {a : Int32} {z : tq_S} {n : Nat} (hn : n < 512) (i1 : vp_in (a + 1) K.1) (i2 : vp_in (a + 2) K.1) (i3 : vp_in (a + 3) K.1) (hB : ∀ z', J (n + 1) z' → B (a + 4) z') (hJ : J n z) : wc_law_312 K B Q a z := by
  obtain ⟨w, h, r, S, kN, C, M, Z, A, T, hJ⟩ := hJ
  have dn : ∀ z', Jj (n + 1) w h r S kN C M Z A T z' → wc_law_2748 K B Q a z' := fun z' j => gl_g (hB z' ⟨w, h, r, S, kN, C, M, Z, A, T, j⟩)
  obtain ⟨jb, jv, jk, ju, jt, js, jf, jh, jp, jx, ji⟩ := id hJ
  have hd := jb.1
  have hj := jb.2.1
  have hr := jb.2.2
  have hw8 := hd.2.1
  have hh8 := hd.2.2.2.1
  have n1 : ¬ (1 : Int32) = 0 := by decide +kernel
  have n2 : ¬ (2 : Int32) = 0 := by decide +kernel
  have n3 : ¬ (3 : Int32) = 0 := by decide +kernel
  unfold wc_law_312 wm_L_form
  refine ⟨i1, i2, sc_form (fun q => Or.inr ⟨rfl, _, rfl, i1, i2, sr_form (fun _ z' f e => ⟨_, rfl, gl_t n1 e (dn z' (Jj_f f (by decide) (by decide) hJ))⟩) (fun m ex hk => (c_fm q ex hk).elim)⟩) (fun m ex hk z1 c1 => Or.inl ⟨_, rfl, fun z2 e2 => ⟨_, rfl, i1, i2, sr_form (fun q => (c_fm q ex hk).elim) (fun m2 ex2 hk2 z3 c3 => ?_)⟩⟩)⟩
  have b1 := fm_b hk
  have b2 := fm_b hk2
  have u1 : m2 = m := nI_u (by omega) (by omega) (ex2.symm.trans ex)
  subst u1
  exact ⟨_, rfl, gl_a c3.2.2.1 (gl_o e2 c3.1 (by decide)) (gl_g (hB z3 ⟨_, _, _, _, kN, C, M, Z, A, T, Jj_n hn ⟨b1.2.2.1, b1.2.2.2, b1.2.2.1, b1.2.2.2, fun q => (by cases q), fm_re hk⟩ c1 (gl_f e2) c3 hJ⟩))⟩
theorem lz_382 {K : Nat × (Nat → Int32)} {B : Int32 → tq_S → Prop} {Q : tq_O → tq_S → Prop} {a : Int32} {z : tq_S} {n : Nat} (hn : n < 512) (i1 : vp_in (a + 1) K.1) (i2 : vp_in (a + 2) K.1) (i3 : vp_in (a + 3) K.1) (hB : ∀ z', J (n + 1) z' → B (a + 4) z') (hJ : J n z) : wc_law_382 K B Q a z := by
  obtain ⟨w, h, r, S, kN, C, M, Z, A, T, hJ⟩ := hJ
  have dn : ∀ z', Jj (n + 1) w h r S kN C M Z A T z' → wc_law_2748 K B Q a z' := fun z' j => gl_g (hB z' ⟨w, h, r, S, kN, C, M, Z, A, T, j⟩)
  obtain ⟨jb, jv, jk, ju, jt, js, jf, jh, jp, jx, ji⟩ := id hJ
  have hd := jb.1
  have hj := jb.2.1
  have hr := jb.2.2
  have hw8 := hd.2.1
  have hh8 := hd.2.2.2.1
  have n1 : ¬ (1 : Int32) = 0 := by decide +kernel
  have n2 : ¬ (2 : Int32) = 0 := by decide +kernel
  have n3 : ¬ (3 : Int32) = 0 := by decide +kernel
  unfold wc_law_382 wm_L_cut
  refine ⟨i1, i2, sc_cut hd hj (fun q => Or.inr ⟨rfl, _, rfl, i1, i2, sr_cut hd hr (fun _ z' f e => ⟨_, rfl, gl_t n1 e (dn z' (Jj_f f (by decide) (by decide) hJ))⟩) (fun a1 b1 ex ey h1 h2 hs => (c_ho q ex ey h1 h2 hs hw8 hh8).elim)⟩) (fun a1 b1 ex ey h1 h2 hs z1 c1 => Or.inl ⟨_, rfl, fun z2 e2 => ⟨_, rfl, i1, i2, sr_cut hd (jr_f (gl_1 c1.1 (gl_f e2)) (by decide) (by decide) (by decide) (by decide) hr) (fun q => (c_ho q ex ey h1 h2 hs hw8 hh8).elim) (fun a2 b2 ex2 ey2 g1 g2 hs2 z3 c3 => ?_)⟩⟩)⟩
  have u1 : a2 = a1 := nI_u (by omega) (by omega) (ex2.symm.trans ex)
  have u2 : b2 = b1 := nI_u (by omega) (by omega) (ey2.symm.trans ey)
  subst u1
  subst u2
  exact ⟨_, rfl, gl_a c3.2.2.1 (gl_o e2 c3.1 (by decide)) (gl_g (hB z3 ⟨_, _, _, _, kN, C, M, Z, A, T, Jj_n hn (jd_fl hd g1 g2) c1 (gl_f e2) c3 hJ⟩))⟩
theorem lz_450 {K : Nat × (Nat → Int32)} {B : Int32 → tq_S → Prop} {Q : tq_O → tq_S → Prop} {a : Int32} {z : tq_S} {n : Nat} (hn : n < 512) (i1 : vp_in (a + 1) K.1) (i2 : vp_in (a + 2) K.1) (i3 : vp_in (a + 3) K.1) (hB : ∀ z', J (n + 1) z' → B (a + 4) z') (hJ : J n z) : wc_law_450 K B Q a z := by
  obtain ⟨w, h, r, S, kN, C, M, Z, A, T, hJ⟩ := hJ
  have dn : ∀ z', Jj (n + 1) w h r S kN C M Z A T z' → wc_law_2748 K B Q a z' := fun z' j => gl_g (hB z' ⟨w, h, r, S, kN, C, M, Z, A, T, j⟩)
  obtain ⟨jb, jv, jk, ju, jt, js, jf, jh, jp, jx, ji⟩ := id hJ
  have hd := jb.1
  have hj := jb.2.1
  have hr := jb.2.2
  have hw8 := hd.2.1
  have hh8 := hd.2.2.2.1
  have n1 : ¬ (1 : Int32) = 0 := by decide +kernel
  have n2 : ¬ (2 : Int32) = 0 := by decide +kernel
  have n3 : ¬ (3 : Int32) = 0 := by decide +kernel
  unfold wc_law_450 wm_L_fill
  refine ⟨i1, i2, sc_fill hd hj (fun q => Or.inr ⟨rfl, _, rfl, i1, i2, sr_fill hd hr (fun _ z' f e => ⟨_, rfl, gl_t n1 e (dn z' (Jj_f f (by decide) (by decide) hJ))⟩) (fun a1 b1 ex ey h1 h2 hs => (c_wi q ex ey h1 h2 hs hw8 hh8).elim)⟩) (fun a1 b1 ex ey h1 h2 hs z1 c1 => Or.inl ⟨_, rfl, fun z2 e2 => ⟨_, rfl, i1, i2, sr_fill hd (jr_f (gl_1 c1.1 (gl_f e2)) (by decide) (by decide) (by decide) (by decide) hr) (fun q => (c_wi q ex ey h1 h2 hs hw8 hh8).elim) (fun a2 b2 ex2 ey2 g1 g2 hs2 z3 c3 => ?_)⟩⟩)⟩
  have u1 : a2 = a1 := nI_u (by omega) (by omega) (ex2.symm.trans ex)
  have u2 : b2 = b1 := nI_u (by omega) (by omega) (ey2.symm.trans ey)
  subst u1
  subst u2
  exact ⟨_, rfl, gl_a c3.2.2.1 (gl_o e2 c3.1 (by decide)) (gl_g (hB z3 ⟨_, _, _, _, kN, C, M, Z, A, T, Jj_n hn (jd_fl hd g1 g2) c1 (gl_f e2) c3 hJ⟩))⟩
theorem lz_518 {K : Nat × (Nat → Int32)} {B : Int32 → tq_S → Prop} {Q : tq_O → tq_S → Prop} {a : Int32} {z : tq_S} {n : Nat} (hn : n < 512) (i1 : vp_in (a + 1) K.1) (i2 : vp_in (a + 2) K.1) (i3 : vp_in (a + 3) K.1) (hB : ∀ z', J (n + 1) z' → B (a + 4) z') (hJ : J n z) : wc_law_518 K B Q a z := by
  obtain ⟨w, h, r, S, kN, C, M, Z, A, T, hJ⟩ := hJ
  have dn : ∀ z', Jj (n + 1) w h r S kN C M Z A T z' → wc_law_2748 K B Q a z' := fun z' j => gl_g (hB z' ⟨w, h, r, S, kN, C, M, Z, A, T, j⟩)
  obtain ⟨jb, jv, jk, ju, jt, js, jf, jh, jp, jx, ji⟩ := id hJ
  have hd := jb.1
  have hj := jb.2.1
  have hr := jb.2.2
  have hw8 := hd.2.1
  have hh8 := hd.2.2.2.1
  have n1 : ¬ (1 : Int32) = 0 := by decide +kernel
  have n2 : ¬ (2 : Int32) = 0 := by decide +kernel
  have n3 : ¬ (3 : Int32) = 0 := by decide +kernel
  have main : ∀ (b : Bool) (s0 : Int32), s0 = bi b → (K.2 (Int32.toNatClampNeg (a + (1 : Int32))) = 0 → b = false) → (¬ K.2 (Int32.toNatClampNeg (a + (1 : Int32))) = 0 → b = true) → wc_law_533 K B Q a s0 z := by
    intro b s0 es d0 d1
    have hx : (s0 = 0 → b = false) ∧ (¬ s0 = 0 → b = true ∧ s0 = 1) := by
      rw [es]
      cases b
      · exact ⟨fun _ => rfl, fun u => absurd rfl u⟩
      · exact ⟨fun u => absurd u (by decide +kernel), fun _ => ⟨rfl, rfl⟩⟩
    have pick : ∀ {k : Int32} {zz : tq_S}, wc_law_554 K B Q a k s0 zz → vp_in (a + (1 : Int32)) K.1 ∧ ((K.2 (Int32.toNatClampNeg (a + (1 : Int32))) = (0 : Int32) → wc_law_554 K B Q a k (0 : Int32) zz) ∧ (¬ K.2 (Int32.toNatClampNeg (a + (1 : Int32))) = (0 : Int32) → wc_law_554 K B Q a k (1 : Int32) zz)) := by
      intro k zz hh
      refine ⟨i1, fun q => ?_, fun q => ?_⟩
      · have e := d0 q
        rw [es, e] at hh
        exact hh
      · have e := d1 q
        rw [es, e] at hh
        exact hh
    unfold wc_law_533 wm_L_roll
    refine sc_roll hx hd hj (fun q q2 => Or.inr ⟨rfl, _, rfl, pick ?_⟩) (fun q z1 c1 => Or.inl ⟨_, rfl, fun hz z2 e2 => ⟨_, rfl, pick ?_⟩, fun hz z2 e2 => ⟨_, rfl, pick ?_⟩⟩)
    · unfold wc_law_554
      exact sr_roll hx hd hr (fun _ _ z' f e => ⟨_, rfl, gl_tb n1 e (dn z' (Jj_f f (by decide) (by decide) hJ))⟩) (fun q3 => absurd (q3 q) q2)
    · unfold wc_law_554
      refine sr_roll hx hd (jr_f (gl_1 c1.1 (gl_f e2)) (by decide) (by decide) (by decide) (by decide) hr) (fun q2 q3 => absurd (q q2) q3) (fun _ z3 c3 => ⟨_, rfl, gl_ab c3.2.2.1 (fun hv => ⟨fun _ => ?_, fun ne => absurd (gl_o e2 c3.1 (by decide)) ne⟩) (fun hv => absurd hz hv)⟩)
      exact gl_g (hB z3 ⟨_, _, _, _, kN, C, M, Z, A, T, Jj_n hn ⟨hd.1, hd.2.1, hd.2.2.1, hd.2.2.2.1, q, hd.2.2.2.2.2⟩ c1 (gl_f e2) c3 hJ⟩)
    · unfold wc_law_554
      refine sr_roll hx hd (jr_f (gl_1 c1.1 (gl_f e2)) (by decide) (by decide) (by decide) (by decide) hr) (fun q2 q3 => absurd (q q2) q3) (fun _ z3 c3 => ⟨_, rfl, gl_ab c3.2.2.1 (fun hv => absurd hv hz) (fun hv => ⟨fun _ => ?_, fun ne => absurd (gl_o e2 c3.1 (by decide)) ne⟩)⟩)
      exact gl_g (hB z3 ⟨_, _, _, _, kN, C, M, Z, A, T, Jj_n hn ⟨hd.1, hd.2.1, hd.2.2.1, hd.2.2.2.1, q, hd.2.2.2.2.2⟩ c1 (gl_f e2) c3 hJ⟩)
  unfold wc_law_518
  exact ⟨i1, fun q => main false 0 rfl (fun _ => rfl) (fun q2 => absurd q q2), fun q => main true 1 rfl (fun q2 => absurd q2 q) (fun _ => rfl)⟩
theorem lz_597 {K : Nat × (Nat → Int32)} {B : Int32 → tq_S → Prop} {Q : tq_O → tq_S → Prop} {a : Int32} {z : tq_S} {n : Nat} (hn : n < 512) (i1 : vp_in (a + 1) K.1) (i2 : vp_in (a + 2) K.1) (i3 : vp_in (a + 3) K.1) (hB : ∀ z', J (n + 1) z' → B (a + 4) z') (hJ : J n z) : wc_law_597 K B Q a z := by
  obtain ⟨w, h, r, S, kN, C, M, Z, A, T, hJ⟩ := hJ
  have dn : ∀ z', Jj (n + 1) w h r S kN C M Z A T z' → wc_law_2748 K B Q a z' := fun z' j => gl_g (hB z' ⟨w, h, r, S, kN, C, M, Z, A, T, j⟩)
  obtain ⟨jb, jv, jk, ju, jt, js, jf, jh, jp, jx, ji⟩ := id hJ
  have hd := jb.1
  have hj := jb.2.1
  have hr := jb.2.2
  have hw8 := hd.2.1
  have hh8 := hd.2.2.2.1
  have n1 : ¬ (1 : Int32) = 0 := by decide +kernel
  have n2 : ¬ (2 : Int32) = 0 := by decide +kernel
  have n3 : ¬ (3 : Int32) = 0 := by decide +kernel
  unfold wc_law_597 wm_L_cells
  exact ⟨i1, sc_cells hj (fun h1 h2 => Or.inr ⟨rfl, _, rfl, i1, sr_cells hr (fun _ _ z' f e => ⟨_, rfl, gl_t n1 e (dn z' (Jj_f f (by decide) (by decide) hJ))⟩) (fun q => (q.elim h1 h2).elim)⟩) (fun q => Or.inl ⟨_, rfl, fun z2 e2 => ⟨_, rfl, i1, sr_cells (jbrd_f (gl_f e2) (by decide) jb).2.2 (fun h1 h2 => (q.elim h1 h2).elim) (fun _ z3 f3 e3 => ⟨_, rfl, gl_a e3 (gl_o e2 f3 (by decide)) (dn z3 (Jj_f (gl_2 (gl_f e2) f3) (by decide) (by decide) hJ))⟩)⟩⟩)⟩
theorem lz_655 {K : Nat × (Nat → Int32)} {B : Int32 → tq_S → Prop} {Q : tq_O → tq_S → Prop} {a : Int32} {z : tq_S} {n : Nat} (hn : n < 512) (i1 : vp_in (a + 1) K.1) (i2 : vp_in (a + 2) K.1) (i3 : vp_in (a + 3) K.1) (hB : ∀ z', J (n + 1) z' → B (a + 4) z') (hJ : J n z) : wc_law_655 K B Q a z := by
  obtain ⟨w, h, r, S, kN, C, M, Z, A, T, hJ⟩ := hJ
  have dn : ∀ z', Jj (n + 1) w h r S kN C M Z A T z' → wc_law_2748 K B Q a z' := fun z' j => gl_g (hB z' ⟨w, h, r, S, kN, C, M, Z, A, T, j⟩)
  obtain ⟨jb, jv, jk, ju, jt, js, jf, jh, jp, jx, ji⟩ := id hJ
  have hd := jb.1
  have hj := jb.2.1
  have hr := jb.2.2
  have hw8 := hd.2.1
  have hh8 := hd.2.2.2.1
  have n1 : ¬ (1 : Int32) = 0 := by decide +kernel
  have n2 : ¬ (2 : Int32) = 0 := by decide +kernel
  have n3 : ¬ (3 : Int32) = 0 := by decide +kernel
  unfold wc_law_655
  exact ⟨i1, i2, sc_has hd hj ⟨_, rfl, i1, i2, sr_has hd hr (fun z' f => ⟨_, rfl, fun _ => dn z' (Jj_f f (by decide) (by decide) hJ), fun ne => absurd rfl ne⟩)⟩⟩
theorem lz_692 {K : Nat × (Nat → Int32)} {B : Int32 → tq_S → Prop} {Q : tq_O → tq_S → Prop} {a : Int32} {z : tq_S} {n : Nat} (hn : n < 512) (i1 : vp_in (a + 1) K.1) (i2 : vp_in (a + 2) K.1) (i3 : vp_in (a + 3) K.1) (hB : ∀ z', J (n + 1) z' → B (a + 4) z') (hJ : J n z) : wc_law_692 K B Q a z := by
  obtain ⟨w, h, r, S, kN, C, M, Z, A, T, hJ⟩ := hJ
  have dn : ∀ z', Jj (n + 1) w h r S kN C M Z A T z' → wc_law_2748 K B Q a z' := fun z' j => gl_g (hB z' ⟨w, h, r, S, kN, C, M, Z, A, T, j⟩)
  obtain ⟨jb, jv, jk, ju, jt, js, jf, jh, jp, jx, ji⟩ := id hJ
  have hd := jb.1
  have hj := jb.2.1
  have hr := jb.2.2
  have hw8 := hd.2.1
  have hh8 := hd.2.2.2.1
  have n1 : ¬ (1 : Int32) = 0 := by decide +kernel
  have n2 : ¬ (2 : Int32) = 0 := by decide +kernel
  have n3 : ¬ (3 : Int32) = 0 := by decide +kernel
  unfold wc_law_692 wm_X11_parts
  exact sc_parts hd hj ⟨_, rfl, _, rfl, sr_parts hd hr (fun z' f => ⟨_, rfl, fun _ => dn z' (Jj_f f (by decide) (by decide) hJ), fun ne => absurd rfl ne⟩)⟩
theorem lz_705 {K : Nat × (Nat → Int32)} {B : Int32 → tq_S → Prop} {Q : tq_O → tq_S → Prop} {a : Int32} {z : tq_S} {n : Nat} (hn : n < 512) (i1 : vp_in (a + 1) K.1) (i2 : vp_in (a + 2) K.1) (i3 : vp_in (a + 3) K.1) (hB : ∀ z', J (n + 1) z' → B (a + 4) z') (hJ : J n z) : wc_law_705 K B Q a z := by
  obtain ⟨w, h, r, S, kN, C, M, Z, A, T, hJ⟩ := hJ
  have dn : ∀ z', Jj (n + 1) w h r S kN C M Z A T z' → wc_law_2748 K B Q a z' := fun z' j => gl_g (hB z' ⟨w, h, r, S, kN, C, M, Z, A, T, j⟩)
  obtain ⟨jb, jv, jk, ju, jt, js, jf, jh, jp, jx, ji⟩ := id hJ
  have hd := jb.1
  have hj := jb.2.1
  have hr := jb.2.2
  have hw8 := hd.2.1
  have hh8 := hd.2.2.2.1
  have n1 : ¬ (1 : Int32) = 0 := by decide +kernel
  have n2 : ¬ (2 : Int32) = 0 := by decide +kernel
  have n3 : ¬ (3 : Int32) = 0 := by decide +kernel
  unfold wc_law_705 wm_X11_holes
  exact sc_holes hd hj ⟨_, rfl, _, rfl, sr_holes hd hr (fun z' f => ⟨_, rfl, fun _ => dn z' (Jj_f f (by decide) (by decide) hJ), fun ne => absurd rfl ne⟩)⟩
theorem lz_718 {K : Nat × (Nat → Int32)} {B : Int32 → tq_S → Prop} {Q : tq_O → tq_S → Prop} {a : Int32} {z : tq_S} {n : Nat} (hn : n < 512) (i1 : vp_in (a + 1) K.1) (i2 : vp_in (a + 2) K.1) (i3 : vp_in (a + 3) K.1) (hB : ∀ z', J (n + 1) z' → B (a + 4) z') (hJ : J n z) : wc_law_718 K B Q a z := by
  obtain ⟨w, h, r, S, kN, C, M, Z, A, T, hJ⟩ := hJ
  have dn : ∀ z', Jj (n + 1) w h r S kN C M Z A T z' → wc_law_2748 K B Q a z' := fun z' j => gl_g (hB z' ⟨w, h, r, S, kN, C, M, Z, A, T, j⟩)
  obtain ⟨jb, jv, jk, ju, jt, js, jf, jh, jp, jx, ji⟩ := id hJ
  have hd := jb.1
  have hj := jb.2.1
  have hr := jb.2.2
  have hw8 := hd.2.1
  have hh8 := hd.2.2.2.1
  have n1 : ¬ (1 : Int32) = 0 := by decide +kernel
  have n2 : ¬ (2 : Int32) = 0 := by decide +kernel
  have n3 : ¬ (3 : Int32) = 0 := by decide +kernel
  unfold wc_law_718
  refine sc_covers hd hj jf (fun z1 f1 g1 s1 t1 => ⟨_, rfl, sr_covers hd (jbrd_f f1 (by decide) jb).2.2 (fun z3 f3 t3 => ⟨_, rfl, fun _ => ?_, fun ne => absurd rfl ne⟩)⟩)
  have g := gl_2 f1 f3
  exact dn z3 (Jj_c g (by decide) ⟨_, ctx_f f3 (by decide) (by decide) t1, t3, tn_c⟩ (Or.inr (by rw [fr_fi (k := 134) f3 (by decide), s1, fr_fi f1 (by decide)])) (Or.inl (fr_fi g (by decide))) (Or.inl (fr_fi g (by decide))) (Or.inl (fr_fi g (by decide))) (Or.inl (fr_fi g (by decide))) (fun _ => fro_f f3 (by decide) g1) (jhav_f g (by decide) jh) (jpr_f g (by decide) jp) (jexc_f g (by decide) jx) hJ)
theorem lz_731 {K : Nat × (Nat → Int32)} {B : Int32 → tq_S → Prop} {Q : tq_O → tq_S → Prop} {a : Int32} {z : tq_S} {n : Nat} (hn : n < 512) (i1 : vp_in (a + 1) K.1) (i2 : vp_in (a + 2) K.1) (i3 : vp_in (a + 3) K.1) (hB : ∀ z', J (n + 1) z' → B (a + 4) z') (hJ : J n z) : wc_law_731 K B Q a z := by
  obtain ⟨w, h, r, S, kN, C, M, Z, A, T, hJ⟩ := hJ
  have dn : ∀ z', Jj (n + 1) w h r S kN C M Z A T z' → wc_law_2748 K B Q a z' := fun z' j => gl_g (hB z' ⟨w, h, r, S, kN, C, M, Z, A, T, j⟩)
  obtain ⟨jb, jv, jk, ju, jt, js, jf, jh, jp, jx, ji⟩ := id hJ
  have hd := jb.1
  have hj := jb.2.1
  have hr := jb.2.2
  have hw8 := hd.2.1
  have hh8 := hd.2.2.2.1
  have n1 : ¬ (1 : Int32) = 0 := by decide +kernel
  have n2 : ¬ (2 : Int32) = 0 := by decide +kernel
  have n3 : ¬ (3 : Int32) = 0 := by decide +kernel
  unfold wc_law_731 wm_L_bySigns
  exact sc_bySigns hd hj (fun q => Or.inr ⟨rfl, _, rfl, sr_bySigns hd hr gr_n_b (fun _ z' f e => ⟨_, rfl, gl_t n1 e (dn z' (Jj_f f (by decide) (by decide) hJ))⟩) (fun q2 => absurd (q.symm.trans q2) (by decide))⟩) (fun q z1 f1 t1 => Or.inl ⟨_, rfl, fun z2 e2 => ⟨_, rfl, sr_bySigns hd (jbrd_f (gl_1 f1 (gl_f e2)) (by decide) jb).2.2 gr_n_b (fun q2 => absurd (q2.symm.trans q) (by decide)) (fun _ z3 f3 e3 t3 => ⟨_, rfl, gl_a e3 (gl_o e2 f3 (by decide)) (dn z3 (Jj_t (gl_c f1 (gl_f e2) f3) (by decide) ⟨_, ctx_f (gl_2 (gl_f e2) f3) (by decide) (by decide) t1, t3, tn_c⟩ hJ))⟩)⟩⟩)
theorem lz_775 {K : Nat × (Nat → Int32)} {B : Int32 → tq_S → Prop} {Q : tq_O → tq_S → Prop} {a : Int32} {z : tq_S} {n : Nat} (hn : n < 512) (i1 : vp_in (a + 1) K.1) (i2 : vp_in (a + 2) K.1) (i3 : vp_in (a + 3) K.1) (hB : ∀ z', J (n + 1) z' → B (a + 4) z') (hJ : J n z) : wc_law_775 K B Q a z := by
  obtain ⟨w, h, r, S, kN, C, M, Z, A, T, hJ⟩ := hJ
  have dn : ∀ z', Jj (n + 1) w h r S kN C M Z A T z' → wc_law_2748 K B Q a z' := fun z' j => gl_g (hB z' ⟨w, h, r, S, kN, C, M, Z, A, T, j⟩)
  obtain ⟨jb, jv, jk, ju, jt, js, jf, jh, jp, jx, ji⟩ := id hJ
  have hd := jb.1
  have hj := jb.2.1
  have hr := jb.2.2
  have hw8 := hd.2.1
  have hh8 := hd.2.2.2.1
  have n1 : ¬ (1 : Int32) = 0 := by decide +kernel
  have n2 : ¬ (2 : Int32) = 0 := by decide +kernel
  have n3 : ¬ (3 : Int32) = 0 := by decide +kernel
  have main : ∀ D : Int32, (K.2 (Int32.toNatClampNeg (a + (3 : Int32))) = 0 → D = 0) → (¬ K.2 (Int32.toNatClampNeg (a + (3 : Int32))) = 0 → D = 1) → wc_law_802 K B Q a D (K.2 (Int32.toNatClampNeg (a + (2 : Int32)))) (K.2 (Int32.toNatClampNeg (a + (1 : Int32)))) z := by
    intro D d0 d1
    have pick : ∀ {k : Int32} {zz : tq_S}, wc_law_835 K B Q a k D (K.2 (Int32.toNatClampNeg (a + (2 : Int32)))) (K.2 (Int32.toNatClampNeg (a + (1 : Int32)))) zz → vp_in (a + (1 : Int32)) K.1 ∧ vp_in (a + (2 : Int32)) K.1 ∧ vp_in (a + (3 : Int32)) K.1 ∧ ((K.2 (Int32.toNatClampNeg (a + (3 : Int32))) = (0 : Int32) → wc_law_835 K B Q a k (0 : Int32) (K.2 (Int32.toNatClampNeg (a + (2 : Int32)))) (K.2 (Int32.toNatClampNeg (a + (1 : Int32)))) zz) ∧ (¬ K.2 (Int32.toNatClampNeg (a + (3 : Int32))) = (0 : Int32) → wc_law_835 K B Q a k (1 : Int32) (K.2 (Int32.toNatClampNeg (a + (2 : Int32)))) (K.2 (Int32.toNatClampNeg (a + (1 : Int32)))) zz)) := by
      intro k zz hh
      refine ⟨i1, i2, i3, fun q => ?_, fun q => ?_⟩
      · have e := d0 q
        rw [e] at hh
        exact hh
      · have e := d1 q
        rw [e] at hh
        exact hh
    unfold wc_law_802 wm_L_having
    refine sc_having3 hd hj jf jh (fun q => Or.inr ⟨rfl, _, rfl, pick ?_⟩) (fun x y o hp z1 zz f1 f2 v1 s1 c1 s4 t1 => Or.inl ⟨_, rfl, fun z2 e2 => ⟨_, rfl, pick ?_⟩⟩)
    · unfold wc_law_835
      exact sr_having hd hr (fun _ z' f e => ⟨_, rfl, gl_t n1 e (dn z' (Jj_f f (by decide) (by decide) hJ))⟩) (fun x y o hp => absurd hp (q x y o))
    · unfold wc_law_835
      have f12 := gl_2 f1 f2
      refine sr_having hd (jbrd_f (gl_1 f12 (gl_f e2)) (by decide) jb).2.2 (fun q => absurd hp (q x y o)) (fun x' y' o' hp' z3 f3 e3 t3 => ?_)
      obtain ⟨u1, u2, u3⟩ := pcn_u hw8 hh8 hp hp'
      subst u1
      subst u2
      subst u3
      have g := gl_c f12 (gl_f e2) f3
      have g23 := gl_c f2 (gl_f e2) f3
      refine ⟨_, rfl, gl_a e3 (gl_o e2 f3 (by decide)) (dn z3 (Jj_c g (by decide) ⟨_, ctx_f (gl_2 (gl_f e2) f3) (by decide) (by decide) t1, t3, tn_c⟩ ?_ (Or.inr (by rw [fr_fi (k := 135) g23 (by decide), s1, fr_fi f1 (by decide)])) (Or.inl (fr_fi g (by decide))) (Or.inl (fr_fi g (by decide))) (Or.inl (fr_fi g (by decide))) (jfro_f g23 (by decide) c1) (jhav_f g23 (by decide) (fun _ => v1)) (jpr_f g (by decide) jp) (jexc_f g (by decide) jx) hJ))⟩
      rw [fr_fi g23 (by decide)]
      rcases s4 with e | e
      · exact Or.inl e
      · exact Or.inr (e.trans (fr_fi f1 (by decide)))
  unfold wc_law_775
  exact ⟨i1, i2, i3, fun q => main 0 (fun _ => rfl) (fun q2 => absurd q q2), fun q => main 1 (fun q2 => absurd q2 q) (fun _ => rfl)⟩
theorem lz_871 {K : Nat × (Nat → Int32)} {B : Int32 → tq_S → Prop} {Q : tq_O → tq_S → Prop} {a : Int32} {z : tq_S} {n : Nat} (hn : n < 512) (i1 : vp_in (a + 1) K.1) (i2 : vp_in (a + 2) K.1) (i3 : vp_in (a + 3) K.1) (hB : ∀ z', J (n + 1) z' → B (a + 4) z') (hJ : J n z) : wc_law_871 K B Q a z := by
  obtain ⟨w, h, r, S, kN, C, M, Z, A, T, hJ⟩ := hJ
  have dn : ∀ z', Jj (n + 1) w h r S kN C M Z A T z' → wc_law_2748 K B Q a z' := fun z' j => gl_g (hB z' ⟨w, h, r, S, kN, C, M, Z, A, T, j⟩)
  obtain ⟨jb, jv, jk, ju, jt, js, jf, jh, jp, jx, ji⟩ := id hJ
  have hd := jb.1
  have hj := jb.2.1
  have hr := jb.2.2
  have hw8 := hd.2.1
  have hh8 := hd.2.2.2.1
  have n1 : ¬ (1 : Int32) = 0 := by decide +kernel
  have n2 : ¬ (2 : Int32) = 0 := by decide +kernel
  have n3 : ¬ (3 : Int32) = 0 := by decide +kernel
  obtain ⟨l, tc, tr, hl⟩ := jt
  have l307 := tc.2.2
  unfold wc_law_871 wm_L_signAt
  refine ⟨i1, sc_signAt tc hl (fun q => Or.inr ⟨rfl, _, rfl, i1, sr_signAt tr l307 hl (fun _ z' v f e => ⟨_, rfl, gl_t n1 e (dn z' (Jj_f f (by decide) (by decide) hJ))⟩) (fun m c ex hc => absurd ex (q m (List.getElem?_eq_some_iff.mp hc).1))⟩) (fun m c ex hc => Or.inl ⟨_, rfl, fun z2 e2 => ⟨_, rfl, i1, sr_signAt (rt_f (gl_f e2) (by decide) (by decide) tr) l307 hl (fun q => absurd ex (q m (List.getElem?_eq_some_iff.mp hc).1)) (fun m2 c2 ex2 hc2 z3 f3 e3 => ?_)⟩⟩)⟩
  have b1 := (List.getElem?_eq_some_iff.mp hc).1
  have b2 := (List.getElem?_eq_some_iff.mp hc2).1
  have u1 : m2 = m := nI_u (by omega) (by omega) (ex2.symm.trans ex)
  subst u1
  have u2 : c2 = c := Option.some.inj (hc2.symm.trans hc)
  subst u2
  exact ⟨_, rfl, gl_a e3 (gl_o e2 f3 (by decide)) (dn z3 (Jj_f (gl_2 (gl_f e2) f3) (by decide) (by decide) hJ))⟩
