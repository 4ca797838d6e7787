/-! ===== the law, call by call: st2 ===== -/
theorem lz_927 {K : Nat × (Nat → Int32)} {B : Int32 → tq_S → Prop} {Q : tq_O → tq_S → Prop} {a : Int32} {z : tq_S} {n : Nat} (hn : n < 512) (i1 : vp_in (a + 1) K.1) (i2 : vp_in (a + 2) K.1) (i3 : vp_in (a + 3) K.1) (hB : ∀ z', J (n + 1) z' → B (a + 4) z') (hJ : J n z) : wc_law_927 K B Q a z := by
  obtain ⟨w, h, r, S, kN, C, M, Z, A, T, hJ⟩ := hJ
  have dn : ∀ z', Jj (n + 1) w h r S kN C M Z A T z' → wc_law_2748 K B Q a z' := fun z' j => gl_g (hB z' ⟨w, h, r, S, kN, C, M, Z, A, T, j⟩)
  obtain ⟨jb, jv, jk, ju, jt, js, jf, jh, jp, jx, ji⟩ := id hJ
  have hd := jb.1
  have hj := jb.2.1
  have hr := jb.2.2
  have hw8 := hd.2.1
  have hh8 := hd.2.2.2.1
  have n1 : ¬ (1 : Int32) = 0 := by decide +kernel
  have n2 : ¬ (2 : Int32) = 0 := by decide +kernel
  have n3 : ¬ (3 : Int32) = 0 := by decide +kernel
  obtain ⟨b0, p, x1, x2, x3⟩ := jv
  obtain ⟨u, u1, u2, u3, u4⟩ := ju
  have cu : cuo u b0 z := ⟨u2, u1, fun k hk => (by obtain ⟨b, _, e, _⟩ := u4 k hk; exact ⟨b, e⟩), x1⟩
  have ru : ruo u b0 z := ⟨u3, u1, fun k hk => (by obtain ⟨b, _, _, e, _⟩ := u4 k hk; exact ⟨b, e⟩), x2⟩
  unfold wc_law_927 wm_L_draw
  refine ⟨i1, i2, sc_draw hd hj jf cu (fun q z1 f1 g1 s1 => Or.inr ⟨rfl, _, rfl, i1, i2, sr_draw hd (jbrd_f f1 (by decide) jb).2.2 (ruo_g f1 (by decide) ru) (fun _ z3 f3 e => ⟨_, rfl, gl_t n1 e (dn z3 ?_)⟩) (fun q2 => absurd q (by omega))⟩) (fun q z1 f1 g1 s1 cv e516 ut => Or.inl ⟨_, rfl, fun z2 e2 => ⟨_, rfl, i1, i2, sr_draw hd (jbrd_f (gl_1 f1 (gl_f e2)) (by decide) jb).2.2 (ruo_g (gl_1 f1 (gl_f e2)) (by decide) ru) (fun q2 => absurd q2 (by omega)) (fun _ z3 f3 e3 rt3 e3272 urr => ⟨_, rfl, gl_a e3 (gl_o e2 f3 (by decide)) (dn z3 ?_)⟩)⟩⟩)⟩
  · have g := gl_2 f1 f3
    exact (Jj_c g (by decide) (jtxt_f g (by decide) jt) (Or.inr (by rw [fr_fi (k := 134) f3 (by decide), s1, fr_fi f1 (by decide)])) (Or.inl (fr_fi g (by decide))) (Or.inl (fr_fi g (by decide))) (Or.inl (fr_fi g (by decide))) (Or.inl (fr_fi g (by decide))) (fun _ => fro_f f3 (by decide) g1) (jhav_f g (by decide) jh) (jpr_f g (by decide) jp) (jexc_f g (by decide) jx) hJ)
  · have g := gl_c f1 (gl_f e2) f3
    have g12 := gl_1 f1 (gl_f e2)
    have g13 := gl_2 (gl_f e2) f3
    exact Jj_v g (by decide) ⟨true, _, by rw [fr_fi g13 (by decide)]; exact e516, e3272, fun _ => ⟨by rw [fr_fl (k := 517) g13 (by decide), fr_fl (k := 518) g13 (by decide)]; exact cv, rt3⟩⟩ (jkep_f g (by decide) jk) (jund_n u1 u4 x3 ut urr (fr_ai g13 (by decide)) (fr_al g13 (by decide)) (fr_al g13 (by decide)) (fr_fi g13 (by decide)) (fr_ai g12 (by decide)) (fr_ai g12 (by decide)) (fr_ai g12 (by decide))) (Or.inr (by rw [fr_fi (k := 134) g13 (by decide), s1, fr_fi f1 (by decide)])) (fun _ => fro_f g13 (by decide) g1) hJ
theorem lz_1015 {K : Nat × (Nat → Int32)} {B : Int32 → tq_S → Prop} {Q : tq_O → tq_S → Prop} {a : Int32} {z : tq_S} {n : Nat} (hn : n < 512) (i1 : vp_in (a + 1) K.1) (i2 : vp_in (a + 2) K.1) (i3 : vp_in (a + 3) K.1) (hB : ∀ z', J (n + 1) z' → B (a + 4) z') (hJ : J n z) : wc_law_1015 K B Q a z := by
  obtain ⟨w, h, r, S, kN, C, M, Z, A, T, hJ⟩ := hJ
  have dn : ∀ z', Jj (n + 1) w h r S kN C M Z A T z' → wc_law_2748 K B Q a z' := fun z' j => gl_g (hB z' ⟨w, h, r, S, kN, C, M, Z, A, T, j⟩)
  obtain ⟨jb, jv, jk, ju, jt, js, jf, jh, jp, jx, ji⟩ := id hJ
  have hd := jb.1
  have hj := jb.2.1
  have hr := jb.2.2
  have hw8 := hd.2.1
  have hh8 := hd.2.2.2.1
  have n1 : ¬ (1 : Int32) = 0 := by decide +kernel
  have n2 : ¬ (2 : Int32) = 0 := by decide +kernel
  have n3 : ¬ (3 : Int32) = 0 := by decide +kernel
  obtain ⟨b0, p, x1, x2, x3⟩ := jv
  obtain ⟨u, u1, u2, u3, u4⟩ := ju
  have cu : cuo u b0 z := ⟨u2, u1, fun k hk => (by obtain ⟨b, _, e, _⟩ := u4 k hk; exact ⟨b, e⟩), x1⟩
  have ru : ruo u b0 z := ⟨u3, u1, fun k hk => (by obtain ⟨b, _, _, e, _⟩ := u4 k hk; exact ⟨b, e⟩), x2⟩
  have xc : b0 = true → cvo w r S p (tq_fl z 517) (tq_fl z 518) := fun q => (x3 q).1
  have xr : ∀ {F : List (Nat × Nat)} {zz : tq_S}, fr F z zz → (2, 56) ∉ F → b0 = true → pc w r S p ∧ rto w r S (fun _ => false) p (tq_ai zz 56) := fun g hg q => ⟨(x3 q).1.1, by rw [fr_ai g hg]; exact (x3 q).2⟩
  unfold wc_law_1015 wm_L_next
  refine sc_next hd hj jf cu xc (fun q => Or.inr ⟨rfl, _, rfl, sr_next hd hr ru (xr (F := []) fr_r (by decide)) (fun _ z' f e => ⟨_, rfl, gl_tb n1 e (dn z' (Jj_f f (by decide) (by decide) hJ))⟩) (fun q2 => absurd (q.symm.trans q2) (by decide))⟩) (fun q z1 f1 g1 s1 cv e516 ut => Or.inl ⟨_, rfl, fun hz z2 e2 => ⟨_, rfl, ?_⟩, fun hz z2 e2 => ⟨_, rfl, ?_⟩⟩)
  · refine sr_next hd (jbrd_f (gl_1 f1 (gl_f e2)) (by decide) jb).2.2 (ruo_g (gl_1 f1 (gl_f e2)) (by decide) ru) (xr (gl_1 f1 (gl_f e2)) (by decide)) (fun q2 => absurd (q2.symm.trans q) (by decide)) (fun _ z3 f3 e3 rt3 e3272 urr => ⟨_, rfl, gl_ab e3 (fun hv => ⟨fun _ => ?_, fun ne => absurd (gl_o e2 f3 (by decide)) ne⟩) (fun hv => absurd hz hv)⟩)
    have g := gl_c f1 (gl_f e2) f3
    have g12 := gl_1 f1 (gl_f e2)
    have g13 := gl_2 (gl_f e2) f3
    exact dn z3 (Jj_v g (by decide) ⟨true, _, by rw [fr_fi g13 (by decide)]; exact e516, e3272, fun _ => ⟨by rw [fr_fl (k := 517) g13 (by decide), fr_fl (k := 518) g13 (by decide)]; exact cv, rt3⟩⟩ (jkep_f g (by decide) jk) (jund_n u1 u4 x3 ut urr (fr_ai g13 (by decide)) (fr_al g13 (by decide)) (fr_al g13 (by decide)) (fr_fi g13 (by decide)) (fr_ai g12 (by decide)) (fr_ai g12 (by decide)) (fr_ai g12 (by decide))) (Or.inr (by rw [fr_fi (k := 134) g13 (by decide), s1, fr_fi f1 (by decide)])) (fun _ => fro_f g13 (by decide) g1) hJ)
  · refine sr_next hd (jbrd_f (gl_1 f1 (gl_f e2)) (by decide) jb).2.2 (ruo_g (gl_1 f1 (gl_f e2)) (by decide) ru) (xr (gl_1 f1 (gl_f e2)) (by decide)) (fun q2 => absurd (q2.symm.trans q) (by decide)) (fun _ z3 f3 e3 rt3 e3272 urr => ⟨_, rfl, gl_ab e3 (fun hv => absurd hv hz) (fun hv => ⟨fun _ => ?_, fun ne => absurd (gl_o e2 f3 (by decide)) ne⟩)⟩)
    have g := gl_c f1 (gl_f e2) f3
    have g12 := gl_1 f1 (gl_f e2)
    have g13 := gl_2 (gl_f e2) f3
    exact dn z3 (Jj_v g (by decide) ⟨true, _, by rw [fr_fi g13 (by decide)]; exact e516, e3272, fun _ => ⟨by rw [fr_fl (k := 517) g13 (by decide), fr_fl (k := 518) g13 (by decide)]; exact cv, rt3⟩⟩ (jkep_f g (by decide) jk) (jund_n u1 u4 x3 ut urr (fr_ai g13 (by decide)) (fr_al g13 (by decide)) (fr_al g13 (by decide)) (fr_fi g13 (by decide)) (fr_ai g12 (by decide)) (fr_ai g12 (by decide)) (fr_ai g12 (by decide))) (Or.inr (by rw [fr_fi (k := 134) g13 (by decide), s1, fr_fi f1 (by decide)])) (fun _ => fro_f g13 (by decide) g1) hJ)
theorem lz_1066 {K : Nat × (Nat → Int32)} {B : Int32 → tq_S → Prop} {Q : tq_O → tq_S → Prop} {a : Int32} {z : tq_S} {n : Nat} (hn : n < 512) (i1 : vp_in (a + 1) K.1) (i2 : vp_in (a + 2) K.1) (i3 : vp_in (a + 3) K.1) (hB : ∀ z', J (n + 1) z' → B (a + 4) z') (hJ : J n z) : wc_law_1066 K B Q a z := by
  obtain ⟨w, h, r, S, kN, C, M, Z, A, T, hJ⟩ := hJ
  have dn : ∀ z', Jj (n + 1) w h r S kN C M Z A T z' → wc_law_2748 K B Q a z' := fun z' j => gl_g (hB z' ⟨w, h, r, S, kN, C, M, Z, A, T, j⟩)
  obtain ⟨jb, jv, jk, ju, jt, js, jf, jh, jp, jx, ji⟩ := id hJ
  have hd := jb.1
  have hj := jb.2.1
  have hr := jb.2.2
  have hw8 := hd.2.1
  have hh8 := hd.2.2.2.1
  have n1 : ¬ (1 : Int32) = 0 := by decide +kernel
  have n2 : ¬ (2 : Int32) = 0 := by decide +kernel
  have n3 : ¬ (3 : Int32) = 0 := by decide +kernel
  obtain ⟨b0, p, x1, x2, x3⟩ := jv
  obtain ⟨u, u1, u2, u3, u4⟩ := ju
  have cu : cuo u b0 z := ⟨u2, u1, fun k hk => (by obtain ⟨b, _, e, _⟩ := u4 k hk; exact ⟨b, e⟩), x1⟩
  have ru : ruo u b0 z := ⟨u3, u1, fun k hk => (by obtain ⟨b, _, _, e, _⟩ := u4 k hk; exact ⟨b, e⟩), x2⟩
  have xc : b0 = true → cvo w r S p (tq_fl z 517) (tq_fl z 518) := fun q => (x3 q).1
  have xr : ∀ {F : List (Nat × Nat)} {zz : tq_S}, fr F z zz → (2, 56) ∉ F → b0 = true → pc w r S p ∧ rto w r S (fun _ => false) p (tq_ai zz 56) := fun g hg q => ⟨(x3 q).1.1, by rw [fr_ai g hg]; exact (x3 q).2⟩
  unfold wc_law_1066 wm_L_previous
  refine sc_prev hd hj jf cu xc (fun q => Or.inr ⟨rfl, _, rfl, sr_prev hd hr ru (xr (F := []) fr_r (by decide)) (fun _ z' f e => ⟨_, rfl, gl_tb n1 e (dn z' (Jj_f f (by decide) (by decide) hJ))⟩) (fun q2 => absurd (q.symm.trans q2) (by decide))⟩) (fun q z1 f1 g1 s1 cv e516 ut => Or.inl ⟨_, rfl, fun hz z2 e2 => ⟨_, rfl, ?_⟩, fun hz z2 e2 => ⟨_, rfl, ?_⟩⟩)
  · refine sr_prev hd (jbrd_f (gl_1 f1 (gl_f e2)) (by decide) jb).2.2 (ruo_g (gl_1 f1 (gl_f e2)) (by decide) ru) (xr (gl_1 f1 (gl_f e2)) (by decide)) (fun q2 => absurd (q2.symm.trans q) (by decide)) (fun _ z3 f3 e3 rt3 e3272 urr => ⟨_, rfl, gl_ab e3 (fun hv => ⟨fun _ => ?_, fun ne => absurd (gl_o e2 f3 (by decide)) ne⟩) (fun hv => absurd hz hv)⟩)
    have g := gl_c f1 (gl_f e2) f3
    have g12 := gl_1 f1 (gl_f e2)
    have g13 := gl_2 (gl_f e2) f3
    exact dn z3 (Jj_v g (by decide) ⟨true, _, by rw [fr_fi g13 (by decide)]; exact e516, e3272, fun _ => ⟨by rw [fr_fl (k := 517) g13 (by decide), fr_fl (k := 518) g13 (by decide)]; exact cv, rt3⟩⟩ (jkep_f g (by decide) jk) (jund_n u1 u4 x3 ut urr (fr_ai g13 (by decide)) (fr_al g13 (by decide)) (fr_al g13 (by decide)) (fr_fi g13 (by decide)) (fr_ai g12 (by decide)) (fr_ai g12 (by decide)) (fr_ai g12 (by decide))) (Or.inr (by rw [fr_fi (k := 134) g13 (by decide), s1, fr_fi f1 (by decide)])) (fun _ => fro_f g13 (by decide) g1) hJ)
  · refine sr_prev hd (jbrd_f (gl_1 f1 (gl_f e2)) (by decide) jb).2.2 (ruo_g (gl_1 f1 (gl_f e2)) (by decide) ru) (xr (gl_1 f1 (gl_f e2)) (by decide)) (fun q2 => absurd (q2.symm.trans q) (by decide)) (fun _ z3 f3 e3 rt3 e3272 urr => ⟨_, rfl, gl_ab e3 (fun hv => absurd hv hz) (fun hv => ⟨fun _ => ?_, fun ne => absurd (gl_o e2 f3 (by decide)) ne⟩)⟩)
    have g := gl_c f1 (gl_f e2) f3
    have g12 := gl_1 f1 (gl_f e2)
    have g13 := gl_2 (gl_f e2) f3
    exact dn z3 (Jj_v g (by decide) ⟨true, _, by rw [fr_fi g13 (by decide)]; exact e516, e3272, fun _ => ⟨by rw [fr_fl (k := 517) g13 (by decide), fr_fl (k := 518) g13 (by decide)]; exact cv, rt3⟩⟩ (jkep_f g (by decide) jk) (jund_n u1 u4 x3 ut urr (fr_ai g13 (by decide)) (fr_al g13 (by decide)) (fr_al g13 (by decide)) (fr_fi g13 (by decide)) (fr_ai g12 (by decide)) (fr_ai g12 (by decide)) (fr_ai g12 (by decide))) (Or.inr (by rw [fr_fi (k := 134) g13 (by decide), s1, fr_fi f1 (by decide)])) (fun _ => fro_f g13 (by decide) g1) hJ)
theorem lz_1117 {K : Nat × (Nat → Int32)} {B : Int32 → tq_S → Prop} {Q : tq_O → tq_S → Prop} {a : Int32} {z : tq_S} {n : Nat} (hn : n < 512) (i1 : vp_in (a + 1) K.1) (i2 : vp_in (a + 2) K.1) (i3 : vp_in (a + 3) K.1) (hB : ∀ z', J (n + 1) z' → B (a + 4) z') (hJ : J n z) : wc_law_1117 K B Q a z := by
  obtain ⟨w, h, r, S, kN, C, M, Z, A, T, hJ⟩ := hJ
  have dn : ∀ z', Jj (n + 1) w h r S kN C M Z A T z' → wc_law_2748 K B Q a z' := fun z' j => gl_g (hB z' ⟨w, h, r, S, kN, C, M, Z, A, T, j⟩)
  obtain ⟨jb, jv, jk, ju, jt, js, jf, jh, jp, jx, ji⟩ := id hJ
  have hd := jb.1
  have hj := jb.2.1
  have hr := jb.2.2
  have hw8 := hd.2.1
  have hh8 := hd.2.2.2.1
  have n1 : ¬ (1 : Int32) = 0 := by decide +kernel
  have n2 : ¬ (2 : Int32) = 0 := by decide +kernel
  have n3 : ¬ (3 : Int32) = 0 := by decide +kernel
  obtain ⟨b0, p, x1, x2, x3⟩ := jv
  have xc : b0 = true → cvo w r S p (tq_fl z 517) (tq_fl z 518) := fun q => (x3 q).1
  have xr : ∀ {F : List (Nat × Nat)} {zz : tq_S}, fr F z zz → (2, 56) ∉ F → b0 = true → pc w r S p ∧ rto w r S (fun _ => false) p (tq_ai zz 56) := fun g hg q => ⟨(x3 q).1.1, by rw [fr_ai g hg]; exact (x3 q).2⟩
  unfold wc_law_1117 wm_L_number
  refine sc_number hd hj jf x1 xc (fun q => Or.inr ⟨rfl, _, rfl, sr_number hd hr x2 (xr (F := []) fr_r (by decide)) (fun _ z' f e => ⟨_, rfl, gl_t n1 e (dn z' (Jj_f f (by decide) (by decide) hJ))⟩) (fun q2 => absurd (q.symm.trans q2) (by decide))⟩) (fun q z1 f1 g1 s1 t1 => Or.inl ⟨_, rfl, fun z2 e2 => ⟨_, rfl, sr_number hd (jbrd_f (gl_1 f1 (gl_f e2)) (by decide) jb).2.2 ((fr_fi (gl_1 f1 (gl_f e2)) (by decide)).trans x2) (xr (gl_1 f1 (gl_f e2)) (by decide)) (fun q2 => absurd (q2.symm.trans q) (by decide)) (fun _ z3 f3 e3 t3 => ⟨_, rfl, gl_a e3 (gl_o e2 f3 (by decide)) (dn z3 ?_)⟩)⟩⟩)
  have g := gl_c f1 (gl_f e2) f3
  have g13 := gl_2 (gl_f e2) f3
  exact (Jj_c g (by decide) ⟨_, ctx_f g13 (by decide) (by decide) t1, t3, tn_c⟩ (Or.inr (by rw [fr_fi (k := 134) g13 (by decide), s1, fr_fi f1 (by decide)])) (Or.inl (fr_fi g (by decide))) (Or.inl (fr_fi g (by decide))) (Or.inl (fr_fi g (by decide))) (Or.inl (fr_fi g (by decide))) (fun _ => fro_f g13 (by decide) g1) (jhav_f g (by decide) jh) (jpr_f g (by decide) jp) (jexc_f g (by decide) jx) hJ)
theorem lz_1161 {K : Nat × (Nat → Int32)} {B : Int32 → tq_S → Prop} {Q : tq_O → tq_S → Prop} {a : Int32} {z : tq_S} {n : Nat} (hn : n < 512) (i1 : vp_in (a + 1) K.1) (i2 : vp_in (a + 2) K.1) (i3 : vp_in (a + 3) K.1) (hB : ∀ z', J (n + 1) z' → B (a + 4) z') (hJ : J n z) : wc_law_1161 K B Q a z := by
  obtain ⟨w, h, r, S, kN, C, M, Z, A, T, hJ⟩ := hJ
  have dn : ∀ z', Jj (n + 1) w h r S kN C M Z A T z' → wc_law_2748 K B Q a z' := fun z' j => gl_g (hB z' ⟨w, h, r, S, kN, C, M, Z, A, T, j⟩)
  obtain ⟨jb, jv, jk, ju, jt, js, jf, jh, jp, jx, ji⟩ := id hJ
  have hd := jb.1
  have hj := jb.2.1
  have hr := jb.2.2
  have hw8 := hd.2.1
  have hh8 := hd.2.2.2.1
  have n1 : ¬ (1 : Int32) = 0 := by decide +kernel
  have n2 : ¬ (2 : Int32) = 0 := by decide +kernel
  have n3 : ¬ (3 : Int32) = 0 := by decide +kernel
  obtain ⟨b0, p, x1, x2, x3⟩ := jv
  have xc : b0 = true → cvo w r S p (tq_fl z 517) (tq_fl z 518) := fun q => (x3 q).1
  have xr : ∀ {F : List (Nat × Nat)} {zz : tq_S}, fr F z zz → (2, 56) ∉ F → b0 = true → pc w r S p ∧ rto w r S (fun _ => false) p (tq_ai zz 56) := fun g hg q => ⟨(x3 q).1.1, by rw [fr_ai g hg]; exact (x3 q).2⟩
  unfold wc_law_1161 wm_L_other
  refine ⟨i1, i2, sc_other hd hj x1 xc (fun q => Or.inr (Or.inl ⟨rfl, _, rfl, i1, i2, sr_other hd hr x2 (fun q2 => (x3 q2).2) (fun _ z' v f e => ⟨_, rfl, gl_t n1 e (dn z' (Jj_f f (by decide) (by decide) hJ))⟩) (fun q2 _ => absurd (q.symm.trans q2) (by decide)) (fun a1 b1 ex ey h1 h2 hs _ => (c_ho q ex ey h1 h2 hs hw8 hh8).elim)⟩)) (fun q q1 => Or.inr (Or.inr ⟨rfl, _, rfl, i1, i2, sr_other hd hr x2 (fun q2 => (x3 q2).2) (fun q2 => absurd (q2.symm.trans q) (by decide)) (fun _ _ z' v f e => ⟨_, rfl, gl_t n2 e (dn z' (Jj_f f (by decide) (by decide) hJ))⟩) (fun a1 b1 ex ey h1 h2 hs q2 => absurd (q1.symm.trans q2) (by decide))⟩)) (fun a1 b1 ex ey h1 h2 hs q => Or.inl ⟨_, rfl, fun z2 e2 => ⟨_, rfl, i1, i2, sr_other hd (jbrd_f (gl_f e2) (by decide) jb).2.2 ((fr_fi (gl_f e2) (by decide)).trans x2) (fun q2 => (xr (gl_f e2) (by decide) q2).2) (fun q2 => (c_ho q2 ex ey h1 h2 hs hw8 hh8).elim) (fun _ q2 => absurd (q2.symm.trans q) (by decide)) (fun a2 b2 ex2 ey2 g1 g2 hs2 _ z3 f3 e3 => ?_)⟩⟩)⟩
  have v1 : a2 = a1 := nI_u (by omega) (by omega) (ex2.symm.trans ex)
  have v2 : b2 = b1 := nI_u (by omega) (by omega) (ey2.symm.trans ey)
  subst v1
  subst v2
  exact ⟨_, rfl, gl_a e3 (gl_o e2 f3 (by decide)) (dn z3 (Jj_f (gl_2 (gl_f e2) f3) (by decide) (by decide) hJ))⟩
theorem lz_1229 {K : Nat × (Nat → Int32)} {B : Int32 → tq_S → Prop} {Q : tq_O → tq_S → Prop} {a : Int32} {z : tq_S} {n : Nat} (hn : n < 512) (i1 : vp_in (a + 1) K.1) (i2 : vp_in (a + 2) K.1) (i3 : vp_in (a + 3) K.1) (hB : ∀ z', J (n + 1) z' → B (a + 4) z') (hJ : J n z) : wc_law_1229 K B Q a z := by
  obtain ⟨w, h, r, S, kN, C, M, Z, A, T, hJ⟩ := hJ
  have dn : ∀ z', Jj (n + 1) w h r S kN C M Z A T z' → wc_law_2748 K B Q a z' := fun z' j => gl_g (hB z' ⟨w, h, r, S, kN, C, M, Z, A, T, j⟩)
  obtain ⟨jb, jv, jk, ju, jt, js, jf, jh, jp, jx, ji⟩ := id hJ
  have hd := jb.1
  have hj := jb.2.1
  have hr := jb.2.2
  have hw8 := hd.2.1
  have hh8 := hd.2.2.2.1
  have n1 : ¬ (1 : Int32) = 0 := by decide +kernel
  have n2 : ¬ (2 : Int32) = 0 := by decide +kernel
  have n3 : ¬ (3 : Int32) = 0 := by decide +kernel
  obtain ⟨b0, p, x1, x2, x3⟩ := jv
  have xc : b0 = true → cvo w r S p (tq_fl z 517) (tq_fl z 518) := fun q => (x3 q).1
  have xr : ∀ {F : List (Nat × Nat)} {zz : tq_S}, fr F z zz → (2, 56) ∉ F → b0 = true → pc w r S p ∧ rto w r S (fun _ => false) p (tq_ai zz 56) := fun g hg q => ⟨(x3 q).1.1, by rw [fr_ai g hg]; exact (x3 q).2⟩
  unfold wc_law_1229 wm_L_flips
  exact sc_flips hd hj x1 xc (fun q => Or.inr ⟨rfl, _, rfl, sr_flips hd hr x2 (xr (F := []) fr_r (by decide)) (fun _ z' f e => ⟨_, rfl, gl_t n1 e (dn z' (Jj_f f (by decide) (by decide) hJ))⟩) (fun q2 => absurd (q.symm.trans q2) (by decide))⟩) (fun q => Or.inl ⟨_, rfl, fun z2 e2 => ⟨_, rfl, sr_flips hd (jbrd_f (gl_f e2) (by decide) jb).2.2 ((fr_fi (gl_f e2) (by decide)).trans x2) (xr (gl_f e2) (by decide)) (fun q2 => absurd (q2.symm.trans q) (by decide)) (fun _ z3 f3 e3 => ⟨_, rfl, gl_a e3 (gl_o e2 f3 (by decide)) (dn z3 (Jj_f (gl_2 (gl_f e2) f3) (by decide) (by decide) hJ))⟩)⟩⟩)
theorem lz_1529 {K : Nat × (Nat → Int32)} {B : Int32 → tq_S → Prop} {Q : tq_O → tq_S → Prop} {a : Int32} {z : tq_S} {n : Nat} (hn : n < 512) (i1 : vp_in (a + 1) K.1) (i2 : vp_in (a + 2) K.1) (i3 : vp_in (a + 3) K.1) (hB : ∀ z', J (n + 1) z' → B (a + 4) z') (hJ : J n z) : wc_law_1529 K B Q a z := by
  obtain ⟨w, h, r, S, kN, C, M, Z, A, T, hJ⟩ := hJ
  have dn : ∀ z', Jj (n + 1) w h r S kN C M Z A T z' → wc_law_2748 K B Q a z' := fun z' j => gl_g (hB z' ⟨w, h, r, S, kN, C, M, Z, A, T, j⟩)
  obtain ⟨jb, jv, jk, ju, jt, js, jf, jh, jp, jx, ji⟩ := id hJ
  have hd := jb.1
  have hj := jb.2.1
  have hr := jb.2.2
  have hw8 := hd.2.1
  have hh8 := hd.2.2.2.1
  have n1 : ¬ (1 : Int32) = 0 := by decide +kernel
  have n2 : ¬ (2 : Int32) = 0 := by decide +kernel
  have n3 : ¬ (3 : Int32) = 0 := by decide +kernel
  obtain ⟨b0, p, x1, x2, x3⟩ := jv
  have xc : b0 = true → cvo w r S p (tq_fl z 517) (tq_fl z 518) := fun q => (x3 q).1
  have xr : ∀ {F : List (Nat × Nat)} {zz : tq_S}, fr F z zz → (2, 56) ∉ F → b0 = true → pc w r S p ∧ rto w r S (fun _ => false) p (tq_ai zz 56) := fun g hg q => ⟨(x3 q).1.1, by rw [fr_ai g hg]; exact (x3 q).2⟩
  unfold wc_law_1529 wm_L_cuts
  exact sc_cuts hd hj x1 xc (fun q => Or.inr ⟨rfl, _, rfl, sr_cuts hd hr x2 (xr (F := []) fr_r (by decide)) (fun _ z' f e => ⟨_, rfl, gl_t n1 e (dn z' (Jj_f f (by decide) (by decide) hJ))⟩) (fun q2 => absurd (q.symm.trans q2) (by decide))⟩) (fun q => Or.inl ⟨_, rfl, fun z2 e2 => ⟨_, rfl, sr_cuts hd (jbrd_f (gl_f e2) (by decide) jb).2.2 ((fr_fi (gl_f e2) (by decide)).trans x2) (xr (gl_f e2) (by decide)) (fun q2 => absurd (q2.symm.trans q) (by decide)) (fun _ z3 f3 e3 => ⟨_, rfl, gl_a e3 (gl_o e2 f3 (by decide)) (dn z3 (Jj_f (gl_2 (gl_f e2) f3) (by decide) (by decide) hJ))⟩)⟩⟩)
theorem lz_1273 {K : Nat × (Nat → Int32)} {B : Int32 → tq_S → Prop} {Q : tq_O → tq_S → Prop} {a : Int32} {z : tq_S} {n : Nat} (hn : n < 512) (i1 : vp_in (a + 1) K.1) (i2 : vp_in (a + 2) K.1) (i3 : vp_in (a + 3) K.1) (hB : ∀ z', J (n + 1) z' → B (a + 4) z') (hJ : J n z) : wc_law_1273 K B Q a z := by
  obtain ⟨w, h, r, S, kN, C, M, Z, A, T, hJ⟩ := hJ
  have dn : ∀ z', Jj (n + 1) w h r S kN C M Z A T z' → wc_law_2748 K B Q a z' := fun z' j => gl_g (hB z' ⟨w, h, r, S, kN, C, M, Z, A, T, j⟩)
  obtain ⟨jb, jv, jk, ju, jt, js, jf, jh, jp, jx, ji⟩ := id hJ
  have hd := jb.1
  have hj := jb.2.1
  have hr := jb.2.2
  have hw8 := hd.2.1
  have hh8 := hd.2.2.2.1
  have n1 : ¬ (1 : Int32) = 0 := by decide +kernel
  have n2 : ¬ (2 : Int32) = 0 := by decide +kernel
  have n3 : ¬ (3 : Int32) = 0 := by decide +kernel
  obtain ⟨b0, p, x1, x2, x3⟩ := jv
  obtain ⟨u, u1, u2, u3, u4⟩ := ju
  have cu : cuo u b0 z := ⟨u2, u1, fun k hk => (by obtain ⟨b, _, e, _⟩ := u4 k hk; exact ⟨b, e⟩), x1⟩
  have ru : ruo u b0 z := ⟨u3, u1, fun k hk => (by obtain ⟨b, _, _, e, _⟩ := u4 k hk; exact ⟨b, e⟩), x2⟩
  have xc : b0 = true → cvo w r S p (tq_fl z 517) (tq_fl z 518) := fun q => (x3 q).1
  have xr : ∀ {F : List (Nat × Nat)} {zz : tq_S}, fr F z zz → (2, 56) ∉ F → b0 = true → pc w r S p ∧ rto w r S (fun _ => false) p (tq_ai zz 56) := fun g hg q => ⟨(x3 q).1.1, by rw [fr_ai g hg]; exact (x3 q).2⟩
  unfold wc_law_1273 wm_L_flip
  refine ⟨i1, sc_flip hd hj cu xc (fun q => Or.inr (Or.inl ⟨rfl, _, rfl, i1, sr_flip hd hr ru (xr (F := []) fr_r (by decide)) (fun _ z' f e => ⟨_, rfl, gl_t n1 e (dn z' (Jj_f f (by decide) (by decide) hJ))⟩) (fun q2 => absurd (q.symm.trans q2) (by decide)) (fun q2 => absurd (q.symm.trans q2) (by decide))⟩)) (fun q q1 => Or.inr (Or.inr ⟨rfl, _, rfl, i1, sr_flip hd hr ru (xr (F := []) fr_r (by decide)) (fun q2 => absurd (q2.symm.trans q) (by decide)) (fun _ _ z' f e => ⟨_, rfl, gl_t n2 e (dn z' (Jj_f f (by decide) (by decide) hJ))⟩) (fun _ c hc hf ei => absurd (fidx_of hc hf ei) q1)⟩)) (fun q c hc hf ei z1 f1 cv e516 ut => Or.inl ⟨_, rfl, fun z2 e2 => ⟨_, rfl, i1, sr_flip hd (jbrd_f (gl_1 f1 (gl_f e2)) (by decide) jb).2.2 (ruo_g (gl_1 f1 (gl_f e2)) (by decide) ru) (xr (gl_1 f1 (gl_f e2)) (by decide)) (fun q2 => absurd (q2.symm.trans q) (by decide)) (fun _ q1 => absurd (fidx_of hc hf ei) q1) (fun _ c2 hc2 hf2 ei2 z3 f3 e3 rt3 urr => ?_)⟩⟩)⟩
  have v1 : c2 = c := fidx_u hc hf hc2 hf2 (ei.symm.trans ei2)
  subst v1
  have g := gl_c f1 (gl_f e2) f3
  have g12 := gl_1 f1 (gl_f e2)
  have g13 := gl_2 (gl_f e2) f3
  exact ⟨_, rfl, gl_a e3 (gl_o e2 f3 (by decide)) (dn z3 (Jj_v g (by decide) ⟨true, _, by rw [fr_fi g13 (by decide)]; exact e516, by rw [fr_fi g (by decide), x2, q], fun _ => ⟨by rw [fr_fl (k := 517) g13 (by decide), fr_fl (k := 518) g13 (by decide)]; exact cv, rt3⟩⟩ (jkep_f g (by decide) jk) (jund_n u1 u4 x3 ut urr (fr_ai g13 (by decide)) (fr_al g13 (by decide)) (fr_al g13 (by decide)) (fr_fi g13 (by decide)) (fr_ai g12 (by decide)) (fr_ai g12 (by decide)) (fr_ai g12 (by decide))) (Or.inl (fr_fi g (by decide))) (jfro_f g (by decide) jf) hJ))⟩
theorem lz_1329 {K : Nat × (Nat → Int32)} {B : Int32 → tq_S → Prop} {Q : tq_O → tq_S → Prop} {a : Int32} {z : tq_S} {n : Nat} (hn : n < 512) (i1 : vp_in (a + 1) K.1) (i2 : vp_in (a + 2) K.1) (i3 : vp_in (a + 3) K.1) (hB : ∀ z', J (n + 1) z' → B (a + 4) z') (hJ : J n z) : wc_law_1329 K B Q a z := by
  obtain ⟨w, h, r, S, kN, C, M, Z, A, T, hJ⟩ := hJ
  have dn : ∀ z', Jj (n + 1) w h r S kN C M Z A T z' → wc_law_2748 K B Q a z' := fun z' j => gl_g (hB z' ⟨w, h, r, S, kN, C, M, Z, A, T, j⟩)
  obtain ⟨jb, jv, jk, ju, jt, js, jf, jh, jp, jx, ji⟩ := id hJ
  have hd := jb.1
  have hj := jb.2.1
  have hr := jb.2.2
  have hw8 := hd.2.1
  have hh8 := hd.2.2.2.1
  have n1 : ¬ (1 : Int32) = 0 := by decide +kernel
  have n2 : ¬ (2 : Int32) = 0 := by decide +kernel
  have n3 : ¬ (3 : Int32) = 0 := by decide +kernel
  obtain ⟨u, u1, u2, u3, u4⟩ := ju
  unfold wc_law_1329 wm_L_undo
  refine sc_undo u2 u1 (fun k hk => (by obtain ⟨b, _, e, _⟩ := u4 k hk; exact ⟨b, e⟩)) (fun q => Or.inr ⟨rfl, _, rfl, sr_undo u3 u1 (fun k hk => (by obtain ⟨b, _, _, e, _⟩ := u4 k hk; exact ⟨b, e⟩)) (fun _ z' f e => ⟨_, rfl, gl_t n1 e (dn z' (Jj_f f (by decide) (by decide) hJ))⟩) (fun m b q2 => absurd q (by omega))⟩) (fun m b q eb z1 f1 y1 y2 y3 y4 => Or.inl ⟨_, rfl, fun z2 e2 => ⟨_, rfl, sr_undo ((fr_fi (gl_1 f1 (gl_f e2)) (by decide)).trans u3) u1 (fun k hk => (by obtain ⟨b, _, _, e, _⟩ := u4 k hk; exact ⟨b, by rw [fr_ai (gl_1 f1 (gl_f e2)) (by decide)]; exact e⟩)) (fun q2 => absurd q2 (by omega)) (fun m2 b2 q2 eb2 z3 f3 e3 v1 v2 v3 => ?_)⟩⟩)
  have w1 : m2 = m := by omega
  subst w1
  have g := gl_c f1 (gl_f e2) f3
  have g12 := gl_1 f1 (gl_f e2)
  have g13 := gl_2 (gl_f e2) f3
  obtain ⟨b3, p, a1, a2, a3⟩ := u4 m2 (by omega)
  have w2 : b3 = b := bi_u (a1.symm.trans eb)
  rw [fr_ai g12 (by decide)] at eb2
  have w3 : b2 = b := bi_u (eb2.symm.trans (a2.trans (by rw [w2])))
  subst w2
  subst w3
  refine ⟨_, rfl, gl_a e3 (gl_o e2 f3 (by decide)) (dn z3 (Jj_v g (by decide) ⟨_, p, by rw [fr_fi g13 (by decide)]; exact y4, v2, fun hb => ⟨by rw [fr_fl (k := 517) g13 (by decide), fr_fl (k := 518) g13 (by decide), y2, y3]; exact (a3 hb).1, fun j hj hs ht => v3 j hj _ (by have := tc_lt (w := w) (r := r) (p := p) (j := j); omega) ?_⟩⟩ (jkep_f g (by decide) jk) ⟨m2, by omega, by rw [fr_fi g13 (by decide)]; exact y1, v1, fun k hk => ?_⟩ (Or.inl (fr_fi g (by decide))) (jfro_f g (by decide) jf) hJ))⟩
  · rw [fr_ai g12 (by decide)]
    exact (a3 hb).2 j hj hs ht
  · rw [fr_ai (k := 11) g (by decide), fr_ai (k := 58) g (by decide), fr_al (k := 9) g (by decide), fr_al (k := 10) g (by decide), fr_ai (k := 59) g (by decide)]
    exact u4 k (by omega)
theorem lz_1373 {K : Nat × (Nat → Int32)} {B : Int32 → tq_S → Prop} {Q : tq_O → tq_S → Prop} {a : Int32} {z : tq_S} {n : Nat} (hn : n < 512) (i1 : vp_in (a + 1) K.1) (i2 : vp_in (a + 2) K.1) (i3 : vp_in (a + 3) K.1) (hB : ∀ z', J (n + 1) z' → B (a + 4) z') (hJ : J n z) : wc_law_1373 K B Q a z := by
  obtain ⟨w, h, r, S, kN, C, M, Z, A, T, hJ⟩ := hJ
  have dn : ∀ z', Jj (n + 1) w h r S kN C M Z A T z' → wc_law_2748 K B Q a z' := fun z' j => gl_g (hB z' ⟨w, h, r, S, kN, C, M, Z, A, T, j⟩)
  obtain ⟨jb, jv, jk, ju, jt, js, jf, jh, jp, jx, ji⟩ := id hJ
  have hd := jb.1
  have hj := jb.2.1
  have hr := jb.2.2
  have hw8 := hd.2.1
  have hh8 := hd.2.2.2.1
  have n1 : ¬ (1 : Int32) = 0 := by decide +kernel
  have n2 : ¬ (2 : Int32) = 0 := by decide +kernel
  have n3 : ¬ (3 : Int32) = 0 := by decide +kernel
  obtain ⟨b0, p, x1, x2, x3⟩ := jv
  have xc : b0 = true → cvo w r S p (tq_fl z 517) (tq_fl z 518) := fun q => (x3 q).1
  have xr : ∀ {F : List (Nat × Nat)} {zz : tq_S}, fr F z zz → (2, 56) ∉ F → b0 = true → pc w r S p ∧ rto w r S (fun _ => false) p (tq_ai zz 56) := fun g hg q => ⟨(x3 q).1.1, by rw [fr_ai g hg]; exact (x3 q).2⟩
  unfold wc_law_1373 wm_L_keep
  refine sc_keep hd hj x1 xc (fun q => Or.inr ⟨rfl, _, rfl, sr_keepc hd hr x2 (xr (F := []) fr_r (by decide)) (fun _ z' f e => ⟨_, rfl, gl_t n1 e (dn z' (Jj_f f (by decide) (by decide) hJ))⟩) (fun q2 => absurd (q.symm.trans q2) (by decide))⟩) (fun q z1 f1 y1 y2 y3 => Or.inl ⟨_, rfl, fun z2 e2 => ⟨_, rfl, sr_keepc hd (jbrd_f (gl_1 f1 (gl_f e2)) (by decide) jb).2.2 ((fr_fi (gl_1 f1 (gl_f e2)) (by decide)).trans x2) (xr (gl_1 f1 (gl_f e2)) (by decide)) (fun q2 => absurd (q2.symm.trans q) (by decide)) (fun _ z3 f3 e3 v1 rt3 => ⟨_, rfl, gl_a e3 (gl_o e2 f3 (by decide)) (dn z3 ?_)⟩)⟩⟩)
  have g := gl_c f1 (gl_f e2) f3
  have g13 := gl_2 (gl_f e2) f3
  exact Jj_v g (by decide) (jcov_f g (by decide) ⟨b0, p, x1, x2, x3⟩) ⟨true, p, by rw [fr_fi g13 (by decide)]; exact y3, v1, fun _ => ⟨by rw [fr_fl (k := 520) g13 (by decide), fr_fl (k := 521) g13 (by decide), y1, y2]; exact xc q, rt3⟩⟩ (jund_f g (by decide) ju) (Or.inl (fr_fi g (by decide))) (jfro_f g (by decide) jf) hJ
theorem lz_1417 {K : Nat × (Nat → Int32)} {B : Int32 → tq_S → Prop} {Q : tq_O → tq_S → Prop} {a : Int32} {z : tq_S} {n : Nat} (hn : n < 512) (i1 : vp_in (a + 1) K.1) (i2 : vp_in (a + 2) K.1) (i3 : vp_in (a + 3) K.1) (hB : ∀ z', J (n + 1) z' → B (a + 4) z') (hJ : J n z) : wc_law_1417 K B Q a z := by
  obtain ⟨w, h, r, S, kN, C, M, Z, A, T, hJ⟩ := hJ
  have dn : ∀ z', Jj (n + 1) w h r S kN C M Z A T z' → wc_law_2748 K B Q a z' := fun z' j => gl_g (hB z' ⟨w, h, r, S, kN, C, M, Z, A, T, j⟩)
  obtain ⟨jb, jv, jk, ju, jt, js, jf, jh, jp, jx, ji⟩ := id hJ
  have hd := jb.1
  have hj := jb.2.1
  have hr := jb.2.2
  have hw8 := hd.2.1
  have hh8 := hd.2.2.2.1
  have n1 : ¬ (1 : Int32) = 0 := by decide +kernel
  have n2 : ¬ (2 : Int32) = 0 := by decide +kernel
  have n3 : ¬ (3 : Int32) = 0 := by decide +kernel
  obtain ⟨b0, p, x1, x2, x3⟩ := jv
  have xc : b0 = true → cvo w r S p (tq_fl z 517) (tq_fl z 518) := fun q => (x3 q).1
  have xr : ∀ {F : List (Nat × Nat)} {zz : tq_S}, fr F z zz → (2, 56) ∉ F → b0 = true → pc w r S p ∧ rto w r S (fun _ => false) p (tq_ai zz 56) := fun g hg q => ⟨(x3 q).1.1, by rw [fr_ai g hg]; exact (x3 q).2⟩
  obtain ⟨bk, pk, k1, k2, k3⟩ := jk
  have kc : bk = true → cvo w r S pk (tq_fl z 520) (tq_fl z 521) := fun q => (k3 q).1
  have kr : ∀ {F : List (Nat × Nat)} {zz : tq_S}, fr F z zz → (2, 57) ∉ F → bk = true → pc w r S pk ∧ rto w r S (fun _ => false) pk (tq_ai zz 57) := fun g hg q => ⟨(k3 q).1.1, by rw [fr_ai g hg]; exact (k3 q).2⟩
  obtain ⟨G, hG⟩ := fam_all hd
  have pcf : ∀ {b : Bool} {q : Nat → Nat} {R D : Int64}, (b = true → cvo w r S q R D) → pln w h r S = true → b = true → pot w S q (G q) := fun hc e1 e2 => (fam_use (hG e1) e1 (hc e2).1)
  unfold wc_law_1417 wm_L_apart
  refine sc_apart hd hj x1 k1 xc kc (pcf xc) (pcf kc) (fun q => Or.inr (Or.inl ⟨rfl, _, rfl, sr_apart hd hr x2 k2 (xr (F := []) fr_r (by decide)) (kr (F := []) fr_r (by decide)) (pcf xc) (pcf kc) (fun _ z' f e => ⟨_, rfl, gl_t n1 e (dn z' (Jj_f f (by decide) (by decide) hJ))⟩) (fun q2 => absurd (q.symm.trans q2) (by decide)) (fun q2 => absurd (q.symm.trans q2) (by decide))⟩)) (fun q q1 => Or.inr (Or.inr ⟨rfl, _, rfl, sr_apart hd hr x2 k2 (xr (F := []) fr_r (by decide)) (kr (F := []) fr_r (by decide)) (pcf xc) (pcf kc) (fun q2 => absurd (q2.symm.trans q) (by decide)) (fun _ _ z' f e => ⟨_, rfl, gl_t n2 e (dn z' (Jj_f f (by decide) (by decide) hJ))⟩) (fun _ b1 b2 => absurd (q1.symm.trans (by rw [b1, b2]; rfl : (b0 && bk) = true)) (by decide))⟩)) (fun q b1 b2 z1 f1 => Or.inl ⟨_, rfl, fun z2 e2 => ⟨_, rfl, sr_apart hd (jbrd_f (gl_1 f1 (gl_f e2)) (by decide) jb).2.2 ((fr_fi (gl_1 f1 (gl_f e2)) (by decide)).trans x2) ((fr_fi (gl_1 f1 (gl_f e2)) (by decide)).trans k2) (xr (gl_1 f1 (gl_f e2)) (by decide)) (kr (gl_1 f1 (gl_f e2)) (by decide)) (pcf xc) (pcf kc) (fun q2 => absurd (q2.symm.trans q) (by decide)) (fun _ q1 => absurd (q1.symm.trans (by rw [b1, b2]; rfl : (b0 && bk) = true)) (by decide)) (fun _ _ _ z3 f3 e3 r56 r57 => ⟨_, rfl, gl_a e3 (gl_o e2 f3 (by decide)) (dn z3 ?_)⟩)⟩⟩)
  have g := gl_c f1 (gl_f e2) f3
  exact Jj_v g (by decide) ⟨b0, p, by rw [fr_fi g (by decide)]; exact x1, by rw [fr_fi g (by decide)]; exact x2, fun _ => ⟨by rw [fr_fl (k := 517) g (by decide), fr_fl (k := 518) g (by decide)]; exact xc b1, r56⟩⟩ ⟨bk, pk, by rw [fr_fi g (by decide)]; exact k1, by rw [fr_fi g (by decide)]; exact k2, fun _ => ⟨by rw [fr_fl (k := 520) g (by decide), fr_fl (k := 521) g (by decide)]; exact kc b2, r57⟩⟩ (jund_f g (by decide) ju) (Or.inl (fr_fi g (by decide))) (jfro_f g (by decide) jf) hJ
theorem lz_1461 {K : Nat × (Nat → Int32)} {B : Int32 → tq_S → Prop} {Q : tq_O → tq_S → Prop} {a : Int32} {z : tq_S} {n : Nat} (hn : n < 512) (i1 : vp_in (a + 1) K.1) (i2 : vp_in (a + 2) K.1) (i3 : vp_in (a + 3) K.1) (hB : ∀ z', J (n + 1) z' → B (a + 4) z') (hJ : J n z) : wc_law_1461 K B Q a z := by
  obtain ⟨w, h, r, S, kN, C, M, Z, A, T, hJ⟩ := hJ
  have dn : ∀ z', Jj (n + 1) w h r S kN C M Z A T z' → wc_law_2748 K B Q a z' := fun z' j => gl_g (hB z' ⟨w, h, r, S, kN, C, M, Z, A, T, j⟩)
  obtain ⟨jb, jv, jk, ju, jt, js, jf, jh, jp, jx, ji⟩ := id hJ
  have hd := jb.1
  have hj := jb.2.1
  have hr := jb.2.2
  have hw8 := hd.2.1
  have hh8 := hd.2.2.2.1
  have n1 : ¬ (1 : Int32) = 0 := by decide +kernel
  have n2 : ¬ (2 : Int32) = 0 := by decide +kernel
  have n3 : ¬ (3 : Int32) = 0 := by decide +kernel
  obtain ⟨b0, p, x1, x2, x3⟩ := jv
  have xc : b0 = true → cvo w r S p (tq_fl z 517) (tq_fl z 518) := fun q => (x3 q).1
  have xr : ∀ {F : List (Nat × Nat)} {zz : tq_S}, fr F z zz → (2, 56) ∉ F → b0 = true → pc w r S p ∧ rto w r S (fun _ => false) p (tq_ai zz 56) := fun g hg q => ⟨(x3 q).1.1, by rw [fr_ai g hg]; exact (x3 q).2⟩
  obtain ⟨G, hG⟩ := fam_all hd
  have pcf : ∀ {b : Bool} {q : Nat → Nat} {R D : Int64}, (b = true → cvo w r S q R D) → pln w h r S = true → b = true → pot w S q (G q) := fun hc e1 e2 => (fam_use (hG e1) e1 (hc e2).1)
  unfold wc_law_1461 wm_L_height
  refine ⟨i1, i2, sc_height hd hj x1 xc (pcf xc) (fun q => Or.inr (Or.inl ⟨rfl, _, rfl, i1, i2, sr_height hd hr x2 (xr (F := []) fr_r (by decide)) (pcf xc) (fun _ z' f e => ⟨_, rfl, gl_t n1 e (dn z' (Jj_f f (by decide) (by decide) hJ))⟩) (fun q2 => absurd (q.symm.trans q2) (by decide)) (fun x y q2 => absurd (q.symm.trans q2) (by decide)) (fun x y q2 => absurd (q.symm.trans q2) (by decide))⟩)) (fun q q1 => Or.inr (Or.inr (Or.inl ⟨rfl, _, rfl, i1, i2, sr_height hd hr x2 (xr (F := []) fr_r (by decide)) (pcf xc) (fun q2 => absurd (q2.symm.trans q) (by decide)) (fun _ _ z' f e => ⟨_, rfl, gl_t n2 e (dn z' (Jj_f f (by decide) (by decide) hJ))⟩) (fun x y _ hp => absurd hp (q1 x y)) (fun x y _ hp => absurd hp (q1 x y))⟩))) (fun x y q hp q1 => Or.inr (Or.inr (Or.inr ⟨rfl, _, rfl, i1, i2, sr_height hd hr x2 (xr (F := []) fr_r (by decide)) (pcf xc) (fun q2 => absurd (q2.symm.trans q) (by decide)) (fun _ q2 => absurd hp (q2 x y)) (fun x' y' _ _ _ z' f e => ⟨_, rfl, gl_t n3 e (dn z' (Jj_f f (by decide) (by decide) hJ))⟩) (fun x' y' _ _ q2 => absurd (q1.symm.trans q2) (by decide))⟩))) (fun x y q hp q1 z1 v f1 hv => Or.inl ⟨_, rfl, fun z2 e2 => ⟨_, rfl, i1, i2, sr_height hd (jbrd_f (gl_1 f1 (gl_f e2)) (by decide) jb).2.2 ((fr_fi (gl_1 f1 (gl_f e2)) (by decide)).trans x2) (xr (gl_1 f1 (gl_f e2)) (by decide)) (pcf xc) (fun q2 => absurd (q2.symm.trans q) (by decide)) (fun _ q2 => absurd hp (q2 x y)) (fun x' y' _ _ q2 => absurd (q2.symm.trans q1) (by decide)) (fun x' y' _ hp' _ z3 v3 f3 e3 hv3 => ?_)⟩⟩)⟩
  have w1 : x' = x := nI_u (by have := hp'.1; omega) (by have := hp.1; omega) (hp'.2.2.1.symm.trans hp.2.2.1)
  have w2 : y' = y := nI_u (by have := hp'.2.1; omega) (by have := hp.2.1; omega) (hp'.2.2.2.1.symm.trans hp.2.2.2.1)
  subst w1
  subst w2
  have w3 : v3 = v := nu_eq.mpr (hv3.trans hv.symm)
  subst w3
  exact ⟨_, rfl, gl_a e3 (gl_o e2 f3 (by decide)) (dn z3 (Jj_f (gl_c f1 (gl_f e2) f3) (by decide) (by decide) hJ))⟩
