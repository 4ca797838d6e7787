/-! ===== the law, call by call: st5 ===== -/
theorem lz_1905 {K : Nat × (Nat → Int32)} {B : Int32 → tq_S → Prop} {Q : tq_O → tq_S → Prop} {a : Int32} {z : tq_S} {n : Nat} (hn : n < 512) (i1 : vp_in (a + 1) K.1) (i2 : vp_in (a + 2) K.1) (i3 : vp_in (a + 3) K.1) (hB : ∀ z', J (n + 1) z' → B (a + 4) z') (hJ : J n z) : wc_law_1905 K B Q a z := by
  obtain ⟨w, h, r, S, kN, C, M, Z, A, T, hJ⟩ := hJ
  have dn : ∀ z', Jj (n + 1) w h r S kN C M Z A T z' → wc_law_2748 K B Q a z' := fun z' j => gl_g (hB z' ⟨w, h, r, S, kN, C, M, Z, A, T, j⟩)
  obtain ⟨jb, jv, jk, ju, jt, js, jf, jh, jp, jx, ji⟩ := id hJ
  have hd := jb.1
  have hj := jb.2.1
  have hr := jb.2.2
  have hw8 := hd.2.1
  have hh8 := hd.2.2.2.1
  have n1 : ¬ (1 : Int32) = 0 := by decide +kernel
  have n2 : ¬ (2 : Int32) = 0 := by decide +kernel
  have n3 : ¬ (3 : Int32) = 0 := by decide +kernel
  obtain ⟨kd, kr, ks, kt, kt2, kw, k6, kf⟩ := ji
  have kM : ∀ j, j < kN → M j ≤ 8 := fun j hj => (kd.2.2 j hj).2.1.2
  have kZ : ∀ k, k < kN → 3 ≤ Z k := fun k hk => (kd.2.2 k hk).2.2.1.2.1
  have hT : fb_ct S 64 ≤ 24 → ∀ P f st g z', exc w h r S kN C M Z A P f st g z' → exn (fb_ct S 64) P f kN M < 2147483648 := fun h24 P f st g z' hx => exn_b hd kd ks kf h24 hx
  have jx0 : tq_fi z 1807 = tq_fi z 68 → tq_fi z 1808 = tq_fi z 1478 → ∃ P f st g, exc w h r S kN C M Z A P f st g z := fun a1 a2 => (by obtain ⟨P, f, st, g, b1, _⟩ := jx a1 a2; exact ⟨P, f, st, g, b1⟩)
  unfold wc_law_1905 wm_L_exact
  refine sc_exact hd hj kd ks jx0 (fun q => Or.inr ⟨rfl, _, rfl, sr_exact (P := 0) (f := fun _ => (0, 0, 0, 0)) (zc := z) hd hr kr kM kZ ks (fun q2 => absurd q (by omega)) (fun q2 => absurd q (by omega)) (fun _ z' f e => ⟨_, rfl, gl_t n1 e (dn z' (Jj_f f (by decide) (by decide) hJ))⟩) (fun q2 => absurd q (by omega))⟩) (fun q z1 P f st g0 f1 he s1 s2 hz => Or.inl ⟨_, rfl, fun z2 e2 => ⟨_, rfl, sr_exact hd (jbrd_f (gl_1 f1 (gl_f e2)) (by decide) jb).2.2 (rdc_f (gl_1 f1 (gl_f e2)) (by decide) (by decide) (by decide) (by decide) kr) kM kZ ks (fun _ => he.2.2.2.1) (fun _ => he.2.2.2.2.1) (fun q2 => absurd q2 (by omega)) (fun _ z3 f3 e3 => ⟨_, rfl, gl_a e3 (gl_o e2 f3 (by decide)) (dn z3 ?_)⟩)⟩⟩)
  have g := gl_c f1 (gl_f e2) f3
  have g13 := gl_2 (gl_f e2) f3
  exact (Jj_c g (by decide) (jtxt_f g (by decide) jt) (Or.inl (fr_fi g (by decide))) (Or.inl (fr_fi g (by decide))) (Or.inl (fr_fi g (by decide))) (Or.inr (by rw [fr_fi (k := 1807) g13 (by decide), s1, fr_fi f1 (by decide)])) (Or.inr (by rw [fr_fi (k := 1808) g13 (by decide), s2, fr_fi f1 (by decide)])) (jfro_f g (by decide) jf) (jhav_f g (by decide) jh) (jpr_f g (by decide) jp) (jexc_f g13 (by decide) (fun _ _ => ⟨P, f, st, g0, he, (ex10 hd kd ks q jx he s1 s2 hz)⟩)) hJ)
theorem lz_1949 {K : Nat × (Nat → Int32)} {B : Int32 → tq_S → Prop} {Q : tq_O → tq_S → Prop} {a : Int32} {z : tq_S} {n : Nat} (hn : n < 512) (i1 : vp_in (a + 1) K.1) (i2 : vp_in (a + 2) K.1) (i3 : vp_in (a + 3) K.1) (hB : ∀ z', J (n + 1) z' → B (a + 4) z') (hJ : J n z) : wc_law_1949 K B Q a z := by
  obtain ⟨w, h, r, S, kN, C, M, Z, A, T, hJ⟩ := hJ
  have dn : ∀ z', Jj (n + 1) w h r S kN C M Z A T z' → wc_law_2748 K B Q a z' := fun z' j => gl_g (hB z' ⟨w, h, r, S, kN, C, M, Z, A, T, j⟩)
  obtain ⟨jb, jv, jk, ju, jt, js, jf, jh, jp, jx, ji⟩ := id hJ
  have hd := jb.1
  have hj := jb.2.1
  have hr := jb.2.2
  have hw8 := hd.2.1
  have hh8 := hd.2.2.2.1
  have n1 : ¬ (1 : Int32) = 0 := by decide +kernel
  have n2 : ¬ (2 : Int32) = 0 := by decide +kernel
  have n3 : ¬ (3 : Int32) = 0 := by decide +kernel
  obtain ⟨kd, kr, ks, kt, kt2, kw, k6, kf⟩ := ji
  have kM : ∀ j, j < kN → M j ≤ 8 := fun j hj => (kd.2.2 j hj).2.1.2
  have kZ : ∀ k, k < kN → 3 ≤ Z k := fun k hk => (kd.2.2 k hk).2.2.1.2.1
  have hT : fb_ct S 64 ≤ 24 → ∀ P f st g z', exc w h r S kN C M Z A P f st g z' → exn (fb_ct S 64) P f kN M < 2147483648 := fun h24 P f st g z' hx => exn_b hd kd ks kf h24 hx
  have jx0 : tq_fi z 1807 = tq_fi z 68 → tq_fi z 1808 = tq_fi z 1478 → ∃ P f st g, exc w h r S kN C M Z A P f st g z := fun a1 a2 => (by obtain ⟨P, f, st, g, b1, _⟩ := jx a1 a2; exact ⟨P, f, st, g, b1⟩)
  unfold wc_law_1949 wm_L_unlike
  have no : ∀ {P : Prop}, (24 < fb_ct S 64 ∨ r = true) → fb_ct S 64 ≤ 24 → r = false → P := fun q a b => (q.elim (fun u => absurd u (by omega)) (fun u => absurd (u.symm.trans b) (by decide)))
  refine sc_unlike hd hj kd ks hT (fun h24 er P f st g z' hx => by subst er; exact exc_G hd kd ks h24 hx) jx (fun q => Or.inr ⟨rfl, _, rfl, ?_⟩) (fun q q1 z1 P f st g0 f1 he s1 s2 s3 s4 => Or.inl ⟨_, rfl, fun z2 e2 => ⟨_, rfl, sr_unlike hd (jbrd_f (gl_1 f1 (gl_f e2)) (by decide) jb).2.2 (rdc_f (gl_1 f1 (gl_f e2)) (by decide) (by decide) (by decide) (by decide) kr) kM kZ ks (fun _ => he.2.2.2.1) (fun _ => he.2.2.2.2.1) (fun q2 => no q2 q q1) (fun _ _ z3 f3 e3 => ⟨_, rfl, gl_a e3 (gl_o e2 f3 (by decide)) (dn z3 ?_)⟩)⟩⟩)
  · exact sr_unlike0 hr q (fun z' f e => ⟨_, rfl, gl_t n1 e (dn z' (Jj_f f (by decide) (by decide) hJ))⟩)
  · have g := gl_c f1 (gl_f e2) f3
    have g13 := gl_2 (gl_f e2) f3
    exact (Jj_c g (by decide) (jtxt_f g (by decide) jt) (Or.inl (fr_fi g (by decide))) (Or.inl (fr_fi g (by decide))) (Or.inl (fr_fi g (by decide))) (Or.inr (by rw [fr_fi (k := 1807) g13 (by decide), s1, fr_fi f1 (by decide)])) (Or.inr (by rw [fr_fi (k := 1808) g13 (by decide), s2, fr_fi f1 (by decide)])) (jfro_f g (by decide) jf) (jhav_f g (by decide) jh) (jpr_f g (by decide) jp) (jexc_f g13 (by decide) (fun _ _ => ⟨P, f, st, g0, he, Or.inr s3⟩)) hJ)
theorem lz_1993 {K : Nat × (Nat → Int32)} {B : Int32 → tq_S → Prop} {Q : tq_O → tq_S → Prop} {a : Int32} {z : tq_S} {n : Nat} (hn : n < 512) (i1 : vp_in (a + 1) K.1) (i2 : vp_in (a + 2) K.1) (i3 : vp_in (a + 3) K.1) (hB : ∀ z', J (n + 1) z' → B (a + 4) z') (hJ : J n z) : wc_law_1993 K B Q a z := by
  obtain ⟨w, h, r, S, kN, C, M, Z, A, T, hJ⟩ := hJ
  have dn : ∀ z', Jj (n + 1) w h r S kN C M Z A T z' → wc_law_2748 K B Q a z' := fun z' j => gl_g (hB z' ⟨w, h, r, S, kN, C, M, Z, A, T, j⟩)
  obtain ⟨jb, jv, jk, ju, jt, js, jf, jh, jp, jx, ji⟩ := id hJ
  have hd := jb.1
  have hj := jb.2.1
  have hr := jb.2.2
  have hw8 := hd.2.1
  have hh8 := hd.2.2.2.1
  have n1 : ¬ (1 : Int32) = 0 := by decide +kernel
  have n2 : ¬ (2 : Int32) = 0 := by decide +kernel
  have n3 : ¬ (3 : Int32) = 0 := by decide +kernel
  obtain ⟨kd, kr, ks, kt, kt2, kw, k6, kf⟩ := ji
  have kM : ∀ j, j < kN → M j ≤ 8 := fun j hj => (kd.2.2 j hj).2.1.2
  have kZ : ∀ k, k < kN → 3 ≤ Z k := fun k hk => (kd.2.2 k hk).2.2.1.2.1
  have hT : fb_ct S 64 ≤ 24 → ∀ P f st g z', exc w h r S kN C M Z A P f st g z' → exn (fb_ct S 64) P f kN M < 2147483648 := fun h24 P f st g z' hx => exn_b hd kd ks kf h24 hx
  have jx0 : tq_fi z 1807 = tq_fi z 68 → tq_fi z 1808 = tq_fi z 1478 → ∃ P f st g, exc w h r S kN C M Z A P f st g z := fun a1 a2 => (by obtain ⟨P, f, st, g, b1, _⟩ := jx a1 a2; exact ⟨P, f, st, g, b1⟩)
  unfold wc_law_1993 wm_L_kindAt
  refine ⟨i1, i2, i3, sc_kindAt hd hj kd ks (fun P f st g z' hx => exn_b hd kd ks kf (exc_24 hx) hx) jx0 (fun q => Or.inr (Or.inl ⟨rfl, _, rfl, i1, i2, i3, sr_kindAt (P := 0) (f := fun _ => (0, 0, 0, 0)) (zc := z) hd hr kr kM kZ ks (fun q2 => absurd q (by omega)) (fun q2 => absurd q (by omega)) (fun q2 => absurd q (by omega)) (fun _ z' f e => ⟨_, rfl, gl_t n1 e (dn z' (Jj_f f (by decide) (by decide) hJ))⟩) (fun q2 => absurd q (by omega)) (fun q2 => absurd q (by omega)) (fun q2 => absurd q (by omega))⟩)) (fun q z1 P f st g0 f1 he s1 s2 hz q3 => Or.inr (Or.inr (Or.inl ⟨rfl, _, rfl, i1, i2, i3, sr_kindAt hd (jbrd_f f1 (by decide) jb).2.2 (rdc_f f1 (by decide) (by decide) (by decide) (by decide) kr) kM kZ ks (fun _ => he.2.2.2.1) (fun _ => he.2.2.2.2.1) (fun _ => hT q _ _ _ _ _ he) (fun q2 => absurd q2 (by omega)) (fun _ _ z3 f3 e => ⟨_, rfl, gl_t n2 e (dn z3 ?_)⟩) (fun _ q4 => (by obtain ⟨j, j1, j2⟩ := q4; exact absurd j2 (q3 j j1))) (fun _ z3 j x y k _ _ j1 j2 => absurd j2 (q3 j j1))⟩))) (fun q z1 P f st g0 f1 he s1 s2 hz q3 q4 => Or.inr (Or.inr (Or.inr ⟨rfl, _, rfl, i1, i2, i3, sr_kindAt hd (jbrd_f f1 (by decide) jb).2.2 (rdc_f f1 (by decide) (by decide) (by decide) (by decide) kr) kM kZ ks (fun _ => he.2.2.2.1) (fun _ => he.2.2.2.2.1) (fun _ => hT q _ _ _ _ _ he) (fun q2 => absurd q2 (by omega)) (fun _ q5 => (by obtain ⟨j, j1, j2⟩ := q3; exact absurd j2 (q5 j j1))) (fun _ _ _ z3 f3 e => ⟨_, rfl, gl_t n3 e (dn z3 ?_)⟩) (fun _ z3 j x y k _ _ _ _ ex ey hx hy hs => (c_ho q4 ex ey hx hy hs hw8 hh8).elim)⟩))) (fun q z1 P f st g0 j x y k f1 he s1 s2 hz j1 ej ex ey hx hy hs hk => Or.inl ⟨_, rfl, fun z2 e2 => ⟨_, rfl, i1, i2, i3, sr_kindAt hd (jbrd_f (gl_1 f1 (gl_f e2)) (by decide) jb).2.2 (rdc_f (gl_1 f1 (gl_f e2)) (by decide) (by decide) (by decide) (by decide) kr) kM kZ ks (fun _ => he.2.2.2.1) (fun _ => he.2.2.2.2.1) (fun _ => hT q _ _ _ _ _ he) (fun q2 => absurd q2 (by omega)) (fun _ q5 => absurd ej (q5 j j1)) (fun _ _ q4 => (c_ho q4 ex ey hx hy hs hw8 hh8).elim) (fun _ z3 j' x' y' k' f3 e3 j1' ej' ex' ey' hx' hy' hs' hk' => ?_)⟩⟩)⟩
  · have g := gl_2 f1 f3
    exact (Jj_c g (by decide) (jtxt_f g (by decide) jt) (Or.inl (fr_fi g (by decide))) (Or.inl (fr_fi g (by decide))) (Or.inl (fr_fi g (by decide))) (Or.inr (by rw [fr_fi (k := 1807) f3 (by decide), s1, fr_fi f1 (by decide)])) (Or.inr (by rw [fr_fi (k := 1808) f3 (by decide), s2, fr_fi f1 (by decide)])) (jfro_f g (by decide) jf) (jhav_f g (by decide) jh) (jpr_f g (by decide) jp) (jexc_f f3 (by decide) (fun _ _ => ⟨P, f, st, g0, he, (ex10 hd kd ks q jx he s1 s2 hz)⟩)) hJ)
  · have g := gl_2 f1 f3
    exact (Jj_c g (by decide) (jtxt_f g (by decide) jt) (Or.inl (fr_fi g (by decide))) (Or.inl (fr_fi g (by decide))) (Or.inl (fr_fi g (by decide))) (Or.inr (by rw [fr_fi (k := 1807) f3 (by decide), s1, fr_fi f1 (by decide)])) (Or.inr (by rw [fr_fi (k := 1808) f3 (by decide), s2, fr_fi f1 (by decide)])) (jfro_f g (by decide) jf) (jhav_f g (by decide) jh) (jpr_f g (by decide) jp) (jexc_f f3 (by decide) (fun _ _ => ⟨P, f, st, g0, he, (ex10 hd kd ks q jx he s1 s2 hz)⟩)) hJ)
  · have b31 := hT q _ _ _ _ _ he
    have w1 : j' = j := (i_eq (by omega) (by omega)).mp (ej'.symm.trans ej)
    have w2 : x' = x := nI_u (by omega) (by omega) (ex'.symm.trans ex)
    have w3 : y' = y := nI_u (by omega) (by omega) (ey'.symm.trans ey)
    subst w1
    subst w2
    subst w3
    have w4 : k' = k := kat_u hk hk'
    subst w4
    have g := gl_c f1 (gl_f e2) f3
    have g13 := gl_2 (gl_f e2) f3
    have x10 : tq_fl z1 1810 = -1 ∨ tq_fl z1 1810 = lN (unl w h S P f kN M) := by
      rcases hz with ⟨hz, c1, c2⟩ | hz
      · obtain ⟨P', f', st', g', b1, b2⟩ := jx c1 c2
        rcases b2 with b2 | b2
        · exact Or.inl (hz.trans b2)
        · exact Or.inr ((hz.trans b2).trans (by rw [unl_same hd kd ks q b1 he]))
      · exact Or.inl hz
    exact ⟨_, rfl, gl_a e3 (gl_o e2 f3 (by decide)) (dn z3 (Jj_c g (by decide) (jtxt_f g (by decide) jt) (Or.inl (fr_fi g (by decide))) (Or.inl (fr_fi g (by decide))) (Or.inl (fr_fi g (by decide))) (Or.inr (by rw [fr_fi (k := 1807) g13 (by decide), s1, fr_fi f1 (by decide)])) (Or.inr (by rw [fr_fi (k := 1808) g13 (by decide), s2, fr_fi f1 (by decide)])) (jfro_f g (by decide) jf) (jhav_f g (by decide) jh) (jpr_f g (by decide) jp) (jexc_f g13 (by decide) (fun _ _ => ⟨P, f, st, g0, he, x10⟩)) hJ))⟩
