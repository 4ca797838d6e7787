/-! ===== the law, call by call: st3 ===== -/
theorem lz_1573 {K : Nat × (Nat → Int32)} {B : Int32 → tq_S → Prop} {Q : tq_O → tq_S → Prop} {a : Int32} {z : tq_S} {n : Nat} (hn : n < 512) (i1 : vp_in (a + 1) K.1) (i2 : vp_in (a + 2) K.1) (i3 : vp_in (a + 3) K.1) (hB : ∀ z', J (n + 1) z' → B (a + 4) z') (hJ : J n z) : wc_law_1573 K B Q a z := by
  obtain ⟨w, h, r, S, kN, C, M, Z, A, T, hJ⟩ := hJ
  have dn : ∀ z', Jj (n + 1) w h r S kN C M Z A T z' → wc_law_2748 K B Q a z' := fun z' j => gl_g (hB z' ⟨w, h, r, S, kN, C, M, Z, A, T, j⟩)
  obtain ⟨jb, jv, jk, ju, jt, js, jf, jh, jp, jx, ji⟩ := id hJ
  have hd := jb.1
  have hj := jb.2.1
  have hr := jb.2.2
  have hw8 := hd.2.1
  have hh8 := hd.2.2.2.1
  have n1 : ¬ (1 : Int32) = 0 := by decide +kernel
  have n2 : ¬ (2 : Int32) = 0 := by decide +kernel
  have n3 : ¬ (3 : Int32) = 0 := by decide +kernel
  unfold wc_law_1573
  refine sc_free hd hj jp (fun z1 m f1 e1 p1 => ⟨_, rfl, sr_free hd p1.1 (jbrd_f f1 (by decide) jb).2.2 (fun z3 f3 e3 => ⟨_, rfl, fun _ => ?_, fun ne => absurd rfl ne⟩)⟩)
  have g := gl_2 f1 f3
  exact dn z3 (Jj_c g (by decide) (jtxt_f g (by decide) jt) (Or.inl (fr_fi g (by decide))) (Or.inl (fr_fi g (by decide))) (Or.inr (by rw [fr_fi (k := 1220) f3 (by decide)]; exact e1)) (Or.inl (fr_fi g (by decide))) (Or.inl (fr_fi g (by decide))) (jfro_f g (by decide) jf) (jhav_f g (by decide) jh) (jpr_f f3 (by decide) (fun _ => ⟨m, p1⟩)) (jexc_f g (by decide) jx) hJ)
theorem lz_1586 {K : Nat × (Nat → Int32)} {B : Int32 → tq_S → Prop} {Q : tq_O → tq_S → Prop} {a : Int32} {z : tq_S} {n : Nat} (hn : n < 512) (i1 : vp_in (a + 1) K.1) (i2 : vp_in (a + 2) K.1) (i3 : vp_in (a + 3) K.1) (hB : ∀ z', J (n + 1) z' → B (a + 4) z') (hJ : J n z) : wc_law_1586 K B Q a z := by
  obtain ⟨w, h, r, S, kN, C, M, Z, A, T, hJ⟩ := hJ
  have dn : ∀ z', Jj (n + 1) w h r S kN C M Z A T z' → wc_law_2748 K B Q a z' := fun z' j => gl_g (hB z' ⟨w, h, r, S, kN, C, M, Z, A, T, j⟩)
  obtain ⟨jb, jv, jk, ju, jt, js, jf, jh, jp, jx, ji⟩ := id hJ
  have hd := jb.1
  have hj := jb.2.1
  have hr := jb.2.2
  have hw8 := hd.2.1
  have hh8 := hd.2.2.2.1
  have n1 : ¬ (1 : Int32) = 0 := by decide +kernel
  have n2 : ¬ (2 : Int32) = 0 := by decide +kernel
  have n3 : ¬ (3 : Int32) = 0 := by decide +kernel
  unfold wc_law_1586 wm_L_role
  refine ⟨i1, i2, sc_role hd hj jp (fun q => Or.inr ⟨rfl, _, rfl, i1, i2, sr_role0 hd hr q (fun z' f e => ⟨_, rfl, gl_t n1 e (dn z' (Jj_f f (by decide) (by decide) hJ))⟩)⟩) (fun x y hx hy ex ey hs z1 m f1 e1 p1 => Or.inl ⟨_, rfl, fun z2 e2 => ⟨_, rfl, i1, i2, sr_role hd p1.1 (jbrd_f (gl_1 f1 (gl_f e2)) (by decide) jb).2.2 (fun q => (c_ho q ex ey hx hy hs hw8 hh8).elim) (fun x' y' hx' hy' ex' ey' hs' z3 f3 e3 => ?_)⟩⟩)⟩
  have w1 : x' = x := nI_u (by omega) (by omega) (ex'.symm.trans ex)
  have w2 : y' = y := nI_u (by omega) (by omega) (ey'.symm.trans ey)
  subst w1
  subst w2
  have g := gl_c f1 (gl_f e2) f3
  have g13 := gl_2 (gl_f e2) f3
  exact ⟨_, rfl, gl_a e3 (gl_o e2 f3 (by decide)) (dn z3 (Jj_c g (by decide) (jtxt_f g (by decide) jt) (Or.inl (fr_fi g (by decide))) (Or.inl (fr_fi g (by decide))) (Or.inr (by rw [fr_fi (k := 1220) g13 (by decide)]; exact e1)) (Or.inl (fr_fi g (by decide))) (Or.inl (fr_fi g (by decide))) (jfro_f g (by decide) jf) (jhav_f g (by decide) jh) (jpr_f g13 (by decide) (fun _ => ⟨m, p1⟩)) (jexc_f g (by decide) jx) hJ))⟩
theorem lz_1654 {K : Nat × (Nat → Int32)} {B : Int32 → tq_S → Prop} {Q : tq_O → tq_S → Prop} {a : Int32} {z : tq_S} {n : Nat} (hn : n < 512) (i1 : vp_in (a + 1) K.1) (i2 : vp_in (a + 2) K.1) (i3 : vp_in (a + 3) K.1) (hB : ∀ z', J (n + 1) z' → B (a + 4) z') (hJ : J n z) : wc_law_1654 K B Q a z := by
  obtain ⟨w, h, r, S, kN, C, M, Z, A, T, hJ⟩ := hJ
  have dn : ∀ z', Jj (n + 1) w h r S kN C M Z A T z' → wc_law_2748 K B Q a z' := fun z' j => gl_g (hB z' ⟨w, h, r, S, kN, C, M, Z, A, T, j⟩)
  obtain ⟨jb, jv, jk, ju, jt, js, jf, jh, jp, jx, ji⟩ := id hJ
  have hd := jb.1
  have hj := jb.2.1
  have hr := jb.2.2
  have hw8 := hd.2.1
  have hh8 := hd.2.2.2.1
  have n1 : ¬ (1 : Int32) = 0 := by decide +kernel
  have n2 : ¬ (2 : Int32) = 0 := by decide +kernel
  have n3 : ¬ (3 : Int32) = 0 := by decide +kernel
  unfold wc_law_1654 wm_L_roles
  refine ⟨i1, sc_roles hd hj jp (fun q q1 q2 => Or.inr ⟨rfl, _, rfl, i1, sr_roles0 q q1 q2 (fun z' f e => ⟨_, rfl, gl_t n1 e (dn z' (Jj_f f (by decide) (by decide) hJ))⟩)⟩) (fun m0 hm0 em0 z1 m f1 e1 p1 => Or.inl ⟨_, rfl, fun z2 e2 => ⟨_, rfl, i1, sr_roles hd p1.1 (jbrd_f (gl_1 f1 (gl_f e2)) (by decide) jb).2.2 (fun q q1 q2 => (roles_no hm0 em0 q q1 q2).elim) (fun m2 hm2 em2 z3 f3 e3 => ?_)⟩⟩)⟩
  have w1 : m2 = m0 := nI_u (by omega) (by omega) (em2.symm.trans em0)
  subst w1
  have g := gl_c f1 (gl_f e2) f3
  have g13 := gl_2 (gl_f e2) f3
  exact ⟨_, rfl, gl_a e3 (gl_o e2 f3 (by decide)) (dn z3 (Jj_c g (by decide) (jtxt_f g (by decide) jt) (Or.inl (fr_fi g (by decide))) (Or.inl (fr_fi g (by decide))) (Or.inr (by rw [fr_fi (k := 1220) g13 (by decide)]; exact e1)) (Or.inl (fr_fi g (by decide))) (Or.inl (fr_fi g (by decide))) (jfro_f g (by decide) jf) (jhav_f g (by decide) jh) (jpr_f g13 (by decide) (fun _ => ⟨m, p1⟩)) (jexc_f g (by decide) jx) hJ))⟩
theorem lz_2073 {K : Nat × (Nat → Int32)} {B : Int32 → tq_S → Prop} {Q : tq_O → tq_S → Prop} {a : Int32} {z : tq_S} {n : Nat} (hn : n < 512) (i1 : vp_in (a + 1) K.1) (i2 : vp_in (a + 2) K.1) (i3 : vp_in (a + 3) K.1) (hB : ∀ z', J (n + 1) z' → B (a + 4) z') (hJ : J n z) : wc_law_2073 K B Q a z := by
  obtain ⟨w, h, r, S, kN, C, M, Z, A, T, hJ⟩ := hJ
  have dn : ∀ z', Jj (n + 1) w h r S kN C M Z A T z' → wc_law_2748 K B Q a z' := fun z' j => gl_g (hB z' ⟨w, h, r, S, kN, C, M, Z, A, T, j⟩)
  obtain ⟨jb, jv, jk, ju, jt, js, jf, jh, jp, jx, ji⟩ := id hJ
  have hd := jb.1
  have hj := jb.2.1
  have hr := jb.2.2
  have hw8 := hd.2.1
  have hh8 := hd.2.2.2.1
  have n1 : ¬ (1 : Int32) = 0 := by decide +kernel
  have n2 : ¬ (2 : Int32) = 0 := by decide +kernel
  have n3 : ¬ (3 : Int32) = 0 := by decide +kernel
  unfold wc_law_2073 wm_L_strip
  refine ⟨i1, i2,  sc_strip (fun q => Or.inr ⟨rfl, _, rfl, i1, i2, sr_strip (fun _ z' f e => ⟨_, rfl, gl_t n1 e (dn z' (Jj_f f (by decide) (by decide) hJ))⟩) (fun w0 m0 s => absurd s (q w0 m0))⟩) (fun w0 m0 s z1 f1 t1 => Or.inl ⟨_, rfl, fun z2 e2 => ⟨_, rfl, i1, i2, sr_strip (fun q => absurd s (q w0 m0)) (fun w0' m0' s' z3 f3 e3 t3 => ?_)⟩⟩)⟩
  obtain ⟨w1, w2⟩ := st2_u s s'
  subst w1
  subst w2
  exact ⟨_, rfl, gl_a e3 (gl_o e2 f3 (by decide)) (dn z3 (Jj_t (gl_c f1 (gl_f e2) f3) (by decide) ⟨_, ctx_f (gl_2 (gl_f e2) f3) (by decide) (by decide) t1, t3, tn_c⟩ hJ))⟩
theorem lz_2141 {K : Nat × (Nat → Int32)} {B : Int32 → tq_S → Prop} {Q : tq_O → tq_S → Prop} {a : Int32} {z : tq_S} {n : Nat} (hn : n < 512) (i1 : vp_in (a + 1) K.1) (i2 : vp_in (a + 2) K.1) (i3 : vp_in (a + 3) K.1) (hB : ∀ z', J (n + 1) z' → B (a + 4) z') (hJ : J n z) : wc_law_2141 K B Q a z := by
  obtain ⟨w, h, r, S, kN, C, M, Z, A, T, hJ⟩ := hJ
  have dn : ∀ z', Jj (n + 1) w h r S kN C M Z A T z' → wc_law_2748 K B Q a z' := fun z' j => gl_g (hB z' ⟨w, h, r, S, kN, C, M, Z, A, T, j⟩)
  obtain ⟨jb, jv, jk, ju, jt, js, jf, jh, jp, jx, ji⟩ := id hJ
  have hd := jb.1
  have hj := jb.2.1
  have hr := jb.2.2
  have hw8 := hd.2.1
  have hh8 := hd.2.2.2.1
  have n1 : ¬ (1 : Int32) = 0 := by decide +kernel
  have n2 : ¬ (2 : Int32) = 0 := by decide +kernel
  have n3 : ¬ (3 : Int32) = 0 := by decide +kernel
  unfold wc_law_2141 wm_L_order
  refine ⟨i1, sc_order (fun q => Or.inr ⟨rfl, _, rfl, i1, sr_order (fun _ z' f e => ⟨_, rfl, gl_t n1 e (dn z' (Jj_f f (by decide) (by decide) hJ))⟩) (fun w0 s => absurd s (q w0))⟩) (fun w0 s => Or.inl ⟨_, rfl, fun z2 e2 => ⟨_, rfl, i1, sr_order (fun q => absurd s (q w0)) (fun w1 s1 z3 f3 e3 => ?_)⟩⟩)⟩
  have w2 := st1_u s s1
  subst w2
  exact ⟨_, rfl, gl_a e3 (gl_o e2 f3 (by decide)) (dn z3 (Jj_f (gl_2 (gl_f e2) f3) (by decide) (by decide) hJ))⟩
theorem lz_2197 {K : Nat × (Nat → Int32)} {B : Int32 → tq_S → Prop} {Q : tq_O → tq_S → Prop} {a : Int32} {z : tq_S} {n : Nat} (hn : n < 512) (i1 : vp_in (a + 1) K.1) (i2 : vp_in (a + 2) K.1) (i3 : vp_in (a + 3) K.1) (hB : ∀ z', J (n + 1) z' → B (a + 4) z') (hJ : J n z) : wc_law_2197 K B Q a z := by
  obtain ⟨w, h, r, S, kN, C, M, Z, A, T, hJ⟩ := hJ
  have dn : ∀ z', Jj (n + 1) w h r S kN C M Z A T z' → wc_law_2748 K B Q a z' := fun z' j => gl_g (hB z' ⟨w, h, r, S, kN, C, M, Z, A, T, j⟩)
  obtain ⟨jb, jv, jk, ju, jt, js, jf, jh, jp, jx, ji⟩ := id hJ
  have hd := jb.1
  have hj := jb.2.1
  have hr := jb.2.2
  have hw8 := hd.2.1
  have hh8 := hd.2.2.2.1
  have n1 : ¬ (1 : Int32) = 0 := by decide +kernel
  have n2 : ¬ (2 : Int32) = 0 := by decide +kernel
  have n3 : ¬ (3 : Int32) = 0 := by decide +kernel
  unfold wc_law_2197 wm_L_rule
  refine ⟨i1, i2, sc_rule (fun q => Or.inr (Or.inl ⟨rfl, _, rfl, i1, i2, sr_rule (fun _ z' f e => ⟨_, rfl, gl_t n1 e (dn z' (Jj_f f (by decide) (by decide) hJ))⟩) (fun w0 s => absurd s (q w0)) (fun w0 m0 s => absurd ⟨s.1, s.2.1, s.2.2.2.1⟩ (q w0))⟩)) (fun w0 s q => Or.inr (Or.inr ⟨rfl, _, rfl, i1, i2, sr_rule (fun q2 => absurd s (q2 w0)) (fun w1 s1 _ z' f e => ⟨_, rfl, gl_t n2 e (dn z' (Jj_f f (by decide) (by decide) hJ))⟩) (fun w1 m1 s1 => absurd s1 (by have e9 := st1_u s ⟨s1.1, s1.2.1, s1.2.2.2.1⟩; subst e9; exact q m1))⟩)) (fun w0 m0 s z1 f1 t1 => Or.inl ⟨_, rfl, fun z2 e2 => ⟨_, rfl, i1, i2, sr_rule (fun q2 => absurd ⟨s.1, s.2.1, s.2.2.2.1⟩ (q2 w0)) (fun w1 s1 q2 => absurd s (by have e9 := st1_u s1 ⟨s.1, s.2.1, s.2.2.2.1⟩; subst e9; exact q2 m0)) (fun w1 m1 s1 z3 f3 e3 t3 => ?_)⟩⟩)⟩
  obtain ⟨w2, w3⟩ := st3_u s s1
  subst w2
  subst w3
  exact ⟨_, rfl, gl_a e3 (gl_o e2 f3 (by decide)) (dn z3 (Jj_t (gl_c f1 (gl_f e2) f3) (by decide) ⟨_, ctx_f (gl_2 (gl_f e2) f3) (by decide) (by decide) t1, t3, tn_c⟩ hJ))⟩
theorem lz_2265 {K : Nat × (Nat → Int32)} {B : Int32 → tq_S → Prop} {Q : tq_O → tq_S → Prop} {a : Int32} {z : tq_S} {n : Nat} (hn : n < 512) (i1 : vp_in (a + 1) K.1) (i2 : vp_in (a + 2) K.1) (i3 : vp_in (a + 3) K.1) (hB : ∀ z', J (n + 1) z' → B (a + 4) z') (hJ : J n z) : wc_law_2265 K B Q a z := by
  obtain ⟨w, h, r, S, kN, C, M, Z, A, T, hJ⟩ := hJ
  have dn : ∀ z', Jj (n + 1) w h r S kN C M Z A T z' → wc_law_2748 K B Q a z' := fun z' j => gl_g (hB z' ⟨w, h, r, S, kN, C, M, Z, A, T, j⟩)
  obtain ⟨jb, jv, jk, ju, jt, js, jf, jh, jp, jx, ji⟩ := id hJ
  have hd := jb.1
  have hj := jb.2.1
  have hr := jb.2.2
  have hw8 := hd.2.1
  have hh8 := hd.2.2.2.1
  have n1 : ¬ (1 : Int32) = 0 := by decide +kernel
  have n2 : ¬ (2 : Int32) = 0 := by decide +kernel
  have n3 : ¬ (3 : Int32) = 0 := by decide +kernel
  unfold wc_law_2265 wm_L_hexagon
  refine ⟨i1, i2, i3,  sc_hexagon (fun q => Or.inr ⟨rfl, _, rfl, i1, i2, i3, sr_hexagon (fun _ z' f e => ⟨_, rfl, gl_t n1 e (dn z' (Jj_f f (by decide) (by decide) hJ))⟩) (fun a0 b0 c0 s => absurd s (q a0 b0 c0))⟩) (fun a0 b0 c0 s z1 f1 t1 => Or.inl ⟨_, rfl, fun z2 e2 => ⟨_, rfl, i1, i2, i3, sr_hexagon (fun q => absurd s (q a0 b0 c0)) (fun a0' b0' c0' s' z3 f3 e3 t3 => ?_)⟩⟩)⟩
  obtain ⟨w1, w2, w3⟩ := h3_u s s'
  subst w1
  subst w2
  subst w3
  exact ⟨_, rfl, gl_a e3 (gl_o e2 f3 (by decide)) (dn z3 (Jj_t (gl_c f1 (gl_f e2) f3) (by decide) ⟨_, ctx_f (gl_2 (gl_f e2) f3) (by decide) (by decide) t1, t3, tn_c⟩ hJ))⟩
theorem lz_2345 {K : Nat × (Nat → Int32)} {B : Int32 → tq_S → Prop} {Q : tq_O → tq_S → Prop} {a : Int32} {z : tq_S} {n : Nat} (hn : n < 512) (i1 : vp_in (a + 1) K.1) (i2 : vp_in (a + 2) K.1) (i3 : vp_in (a + 3) K.1) (hB : ∀ z', J (n + 1) z' → B (a + 4) z') (hJ : J n z) : wc_law_2345 K B Q a z := by
  obtain ⟨w, h, r, S, kN, C, M, Z, A, T, hJ⟩ := hJ
  have dn : ∀ z', Jj (n + 1) w h r S kN C M Z A T z' → wc_law_2748 K B Q a z' := fun z' j => gl_g (hB z' ⟨w, h, r, S, kN, C, M, Z, A, T, j⟩)
  obtain ⟨jb, jv, jk, ju, jt, js, jf, jh, jp, jx, ji⟩ := id hJ
  have hd := jb.1
  have hj := jb.2.1
  have hr := jb.2.2
  have hw8 := hd.2.1
  have hh8 := hd.2.2.2.1
  have n1 : ¬ (1 : Int32) = 0 := by decide +kernel
  have n2 : ¬ (2 : Int32) = 0 := by decide +kernel
  have n3 : ¬ (3 : Int32) = 0 := by decide +kernel
  unfold wc_law_2345 wm_L_heaps
  refine ⟨i1, i2, i3,  sc_heaps (fun q => Or.inr ⟨rfl, _, rfl, i1, i2, i3, sr_heaps (fun _ z' f e => ⟨_, rfl, gl_t n1 e (dn z' (Jj_f f (by decide) (by decide) hJ))⟩) (fun a0 b0 c0 s => absurd s (q a0 b0 c0))⟩) (fun a0 b0 c0 s z1 f1 t1 => Or.inl ⟨_, rfl, fun z2 e2 => ⟨_, rfl, i1, i2, i3, sr_heaps (fun q => absurd s (q a0 b0 c0)) (fun a0' b0' c0' s' z3 f3 e3 t3 => ?_)⟩⟩)⟩
  obtain ⟨w1, w2, w3⟩ := h3_u s s'
  subst w1
  subst w2
  subst w3
  exact ⟨_, rfl, gl_a e3 (gl_o e2 f3 (by decide)) (dn z3 (Jj_t (gl_c f1 (gl_f e2) f3) (by decide) ⟨_, ctx_f (gl_2 (gl_f e2) f3) (by decide) (by decide) t1, t3, tn_c⟩ hJ))⟩
theorem lz_2425 {K : Nat × (Nat → Int32)} {B : Int32 → tq_S → Prop} {Q : tq_O → tq_S → Prop} {a : Int32} {z : tq_S} {n : Nat} (hn : n < 512) (i1 : vp_in (a + 1) K.1) (i2 : vp_in (a + 2) K.1) (i3 : vp_in (a + 3) K.1) (hB : ∀ z', J (n + 1) z' → B (a + 4) z') (hJ : J n z) : wc_law_2425 K B Q a z := by
  obtain ⟨w, h, r, S, kN, C, M, Z, A, T, hJ⟩ := hJ
  have dn : ∀ z', Jj (n + 1) w h r S kN C M Z A T z' → wc_law_2748 K B Q a z' := fun z' j => gl_g (hB z' ⟨w, h, r, S, kN, C, M, Z, A, T, j⟩)
  obtain ⟨jb, jv, jk, ju, jt, js, jf, jh, jp, jx, ji⟩ := id hJ
  have hd := jb.1
  have hj := jb.2.1
  have hr := jb.2.2
  have hw8 := hd.2.1
  have hh8 := hd.2.2.2.1
  have n1 : ¬ (1 : Int32) = 0 := by decide +kernel
  have n2 : ¬ (2 : Int32) = 0 := by decide +kernel
  have n3 : ¬ (3 : Int32) = 0 := by decide +kernel
  unfold wc_law_2425 wm_L_rooks
  refine ⟨i1, sc_rooks hd hj (fun q => Or.inr ⟨rfl, _, rfl, i1, sr_rooks hd hr (fun _ z' f e => ⟨_, rfl, gl_t n1 e (dn z' (Jj_f f (by decide) (by decide) hJ))⟩) (fun m hm em => absurd em (q m hm))⟩) (fun m hm em z1 f1 t1 => Or.inl ⟨_, rfl, fun z2 e2 => ⟨_, rfl, i1, sr_rooks hd (jbrd_f (gl_1 f1 (gl_f e2)) (by decide) jb).2.2 (fun q => absurd em (q m hm)) (fun m2 hm2 em2 z3 f3 e3 t3 => ?_)⟩⟩)⟩
  have w1 : m2 = m := nI_u (by omega) (by omega) (em2.symm.trans em)
  subst w1
  exact ⟨_, rfl, gl_a e3 (gl_o e2 f3 (by decide)) (dn z3 (Jj_t (gl_c f1 (gl_f e2) f3) (by decide) ⟨_, ctx_f (gl_2 (gl_f e2) f3) (by decide) (by decide) t1, t3, tn_c⟩ hJ))⟩
theorem lz_2481 {K : Nat × (Nat → Int32)} {B : Int32 → tq_S → Prop} {Q : tq_O → tq_S → Prop} {a : Int32} {z : tq_S} {n : Nat} (hn : n < 512) (i1 : vp_in (a + 1) K.1) (i2 : vp_in (a + 2) K.1) (i3 : vp_in (a + 3) K.1) (hB : ∀ z', J (n + 1) z' → B (a + 4) z') (hJ : J n z) : wc_law_2481 K B Q a z := by
  obtain ⟨w, h, r, S, kN, C, M, Z, A, T, hJ⟩ := hJ
  have dn : ∀ z', Jj (n + 1) w h r S kN C M Z A T z' → wc_law_2748 K B Q a z' := fun z' j => gl_g (hB z' ⟨w, h, r, S, kN, C, M, Z, A, T, j⟩)
  obtain ⟨jb, jv, jk, ju, jt, js, jf, jh, jp, jx, ji⟩ := id hJ
  have hd := jb.1
  have hj := jb.2.1
  have hr := jb.2.2
  have hw8 := hd.2.1
  have hh8 := hd.2.2.2.1
  have n1 : ¬ (1 : Int32) = 0 := by decide +kernel
  have n2 : ¬ (2 : Int32) = 0 := by decide +kernel
  have n3 : ¬ (3 : Int32) = 0 := by decide +kernel
  unfold wc_law_2481
  exact sc_mostRooks hd hj (fun z1 f1 => ⟨_, rfl, sr_mostRooks hd (jbrd_f f1 (by decide) jb).2.2 (fun z3 f3 e3 => ⟨_, rfl, fun _ => dn z3 (Jj_f (gl_2 f1 f3) (by decide) (by decide) hJ), fun ne => absurd rfl ne⟩)⟩)
theorem lz_2494 {K : Nat × (Nat → Int32)} {B : Int32 → tq_S → Prop} {Q : tq_O → tq_S → Prop} {a : Int32} {z : tq_S} {n : Nat} (hn : n < 512) (i1 : vp_in (a + 1) K.1) (i2 : vp_in (a + 2) K.1) (i3 : vp_in (a + 3) K.1) (hB : ∀ z', J (n + 1) z' → B (a + 4) z') (hJ : J n z) : wc_law_2494 K B Q a z := by
  obtain ⟨w, h, r, S, kN, C, M, Z, A, T, hJ⟩ := hJ
  have dn : ∀ z', Jj (n + 1) w h r S kN C M Z A T z' → wc_law_2748 K B Q a z' := fun z' j => gl_g (hB z' ⟨w, h, r, S, kN, C, M, Z, A, T, j⟩)
  obtain ⟨jb, jv, jk, ju, jt, js, jf, jh, jp, jx, ji⟩ := id hJ
  have hd := jb.1
  have hj := jb.2.1
  have hr := jb.2.2
  have hw8 := hd.2.1
  have hh8 := hd.2.2.2.1
  have n1 : ¬ (1 : Int32) = 0 := by decide +kernel
  have n2 : ¬ (2 : Int32) = 0 := by decide +kernel
  have n3 : ¬ (3 : Int32) = 0 := by decide +kernel
  unfold wc_law_2494 wm_L_loops
  have no : ∀ {P : Prop}, (36 < fb_ct S 64 ∨ r = true) → fb_ct S 64 ≤ 36 → r = false → P := fun q a b => (q.elim (fun u => absurd u (by omega)) (fun u => absurd (u.symm.trans b) (by decide)))
  exact sc_loops hd hj (fun q => Or.inr ⟨rfl, _, rfl, sr_loops hd hr (fun _ z' f e => ⟨_, rfl, gl_t n1 e (dn z' (Jj_f f (by decide) (by decide) hJ))⟩) (fun a b => no q a b)⟩) (fun q q1 z1 f1 t1 => Or.inl ⟨_, rfl, fun z2 e2 => ⟨_, rfl, sr_loops hd (jbrd_f (gl_1 f1 (gl_f e2)) (by decide) jb).2.2 (fun a => no a q q1) (fun _ _ z3 f3 e3 t3 => ⟨_, rfl, gl_a e3 (gl_o e2 f3 (by decide)) (dn z3 (Jj_t (gl_c f1 (gl_f e2) f3) (by decide) ⟨_, ctx_f (gl_2 (gl_f e2) f3) (by decide) (by decide) t1, t3, tn_c⟩ hJ))⟩)⟩⟩)
