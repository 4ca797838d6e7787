/-! ===== the law, call by call: st4 ===== -/
theorem lz_1712 {K : Nat × (Nat → Int32)} {B : Int32 → tq_S → Prop} {Q : tq_O → tq_S → Prop} {a : Int32} {z : tq_S} {n : Nat} (hn : n < 512) (i1 : vp_in (a + 1) K.1) (i2 : vp_in (a + 2) K.1) (i3 : vp_in (a + 3) K.1) (hB : ∀ z', J (n + 1) z' → B (a + 4) z') (hJ : J n z) : wc_law_1712 K B Q a z := by
  obtain ⟨w, h, r, S, kN, C, M, Z, A, T, hJ⟩ := hJ
  have dn : ∀ z', Jj (n + 1) w h r S kN C M Z A T z' → wc_law_2748 K B Q a z' := fun z' j => gl_g (hB z' ⟨w, h, r, S, kN, C, M, Z, A, T, j⟩)
  obtain ⟨jb, jv, jk, ju, jt, js, jf, jh, jp, jx, ji⟩ := id hJ
  have hd := jb.1
  have hj := jb.2.1
  have hr := jb.2.2
  have hw8 := hd.2.1
  have hh8 := hd.2.2.2.1
  have n1 : ¬ (1 : Int32) = 0 := by decide +kernel
  have n2 : ¬ (2 : Int32) = 0 := by decide +kernel
  have n3 : ¬ (3 : Int32) = 0 := by decide +kernel
  obtain ⟨kd, kr, ks, kt, kt2, kw, k6, kf⟩ := ji
  unfold wc_law_1712 wm_L_pieceCell
  refine ⟨i1, i2, sc_pieceCell kt (fun q => Or.inr (Or.inl ⟨rfl, _, rfl, i1, i2, sr_pieceCell kt2 k6 (fun _ z' f e => ⟨_, rfl, gl_t n1 e (dn z' (Jj_f f (by decide) (by decide) hJ))⟩) (fun x y s => absurd s (q x y)) (fun x y s => absurd s (q x y))⟩)) (fun x y s q q1 => Or.inr (Or.inr ⟨rfl, _, rfl, i1, i2, sr_pieceCell kt2 k6 (fun q2 => absurd s (q2 x y)) (fun x' y' s' _ _ z' f e => ⟨_, rfl, gl_t n2 e (dn z' (Jj_f f (by decide) (by decide) hJ))⟩) (fun x' y' s' q2 => (pc_no s s' q q1 q2).elim)⟩)) (fun x y s q z1 f1 y1 => Or.inl ⟨_, rfl, fun z2 e2 => ⟨_, rfl, i1, i2, sr_pieceCell ((fr_fl (gl_1 f1 (gl_f e2)) (by decide)).trans kt2) k6 (fun q2 => absurd s (q2 x y)) (fun x' y' s' q2 q3 => (pc_no s' s q2 q3 q).elim) (fun x' y' s' _ z3 f3 e3 y3 => ?_)⟩⟩)⟩
  obtain ⟨w1, w2⟩ := pcc_u s s'
  subst w1
  subst w2
  have g := gl_c f1 (gl_f e2) f3
  have g13 := gl_2 (gl_f e2) f3
  obtain ⟨p1, p2⟩ := pc_new s kw k6 q
  exact ⟨_, rfl, gl_a e3 (gl_o e2 f3 (by decide)) (gl_g (hB z3 ⟨w, h, r, S, kN, C, M, Z, A, _, Jj_k hn g (by decide) ⟨kdc_f g (by decide) (by decide) (by decide) (by decide) (by decide) kd, rdc_f g (by decide) (by decide) (by decide) (by decide) kr, ks, (fr_fl g13 (by decide)).trans y1, y3, p1, p2, kf⟩ (Or.inl ⟨fr_fi g (by decide), jexc_f g (by decide) jx⟩) hJ⟩))⟩
theorem lz_1780 {K : Nat × (Nat → Int32)} {B : Int32 → tq_S → Prop} {Q : tq_O → tq_S → Prop} {a : Int32} {z : tq_S} {n : Nat} (hn : n < 512) (i1 : vp_in (a + 1) K.1) (i2 : vp_in (a + 2) K.1) (i3 : vp_in (a + 3) K.1) (hB : ∀ z', J (n + 1) z' → B (a + 4) z') (hJ : J n z) : wc_law_1780 K B Q a z := by
  obtain ⟨w, h, r, S, kN, C, M, Z, A, T, hJ⟩ := hJ
  have dn : ∀ z', Jj (n + 1) w h r S kN C M Z A T z' → wc_law_2748 K B Q a z' := fun z' j => gl_g (hB z' ⟨w, h, r, S, kN, C, M, Z, A, T, j⟩)
  obtain ⟨jb, jv, jk, ju, jt, js, jf, jh, jp, jx, ji⟩ := id hJ
  have hd := jb.1
  have hj := jb.2.1
  have hr := jb.2.2
  have hw8 := hd.2.1
  have hh8 := hd.2.2.2.1
  have n1 : ¬ (1 : Int32) = 0 := by decide +kernel
  have n2 : ¬ (2 : Int32) = 0 := by decide +kernel
  have n3 : ¬ (3 : Int32) = 0 := by decide +kernel
  obtain ⟨kd, kr, ks, kt, kt2, kw, k6, kf⟩ := ji
  have kc : ∀ k, k < kN → tq_ai z 25 k = nI (C k) ∧ C k ≤ 8 := fun k hk => (kd.2.2 k hk).1
  have rc : ∀ k, k < kN → tq_ai z 68 k = nI (C k) ∧ C k ≤ 8 := fun k hk => (kr.2.2 k hk).1
  have rA : ∀ k, k < kN → ∀ i, i < C k → tq_al z 69 (8 * k + i) = tq_al z 24 (8 * k + i) := fun k hk i hi => ((kr.2.2 k hk).2.2 i hi).trans ((kd.2.2 k hk).2.2.2 i hi).symm
  have main : ∀ s1 s0 : Int32, (K.2 (Int32.toNatClampNeg (a + (1 : Int32))) = 0 → s1 = 0) → (¬ K.2 (Int32.toNatClampNeg (a + (1 : Int32))) = 0 → s1 = 1) → (K.2 (Int32.toNatClampNeg (a + (2 : Int32))) = 0 → s0 = 0) → (¬ K.2 (Int32.toNatClampNeg (a + (2 : Int32))) = 0 → s0 = 1) → wc_law_1809 K B Q a s0 s1 z := by
    intro s1 s0 d0 d1 d2 d3
    have pick : ∀ {k : Int32} {zz : tq_S}, wc_law_1850 K B Q a k s0 s1 zz → vp_in (a + (1 : Int32)) K.1 ∧ ((K.2 (Int32.toNatClampNeg (a + (1 : Int32))) = (0 : Int32) → wc_law_1836 K B Q a k (0 : Int32) zz) ∧ (¬ K.2 (Int32.toNatClampNeg (a + (1 : Int32))) = (0 : Int32) → wc_law_1836 K B Q a k (1 : Int32) zz)) := by
      intro k zz hh
      have in2 : ∀ t : Int32, t = s1 → wc_law_1836 K B Q a k t zz := by
        intro t et
        subst et
        unfold wc_law_1836
        refine ⟨i2, fun q => ?_, fun q => ?_⟩
        · have e := d2 q
          rw [e] at hh
          exact hh
        · have e := d3 q
          rw [e] at hh
          exact hh
      exact ⟨i1, fun q => in2 0 (d0 q).symm, fun q => in2 1 (d1 q).symm⟩
    unfold wc_law_1809 wm_L_kind
    refine ⟨i3, sc_kind kd.2.1 kd.1 kc kt kw k6 (fun q => Or.inr (Or.inl ⟨rfl, _, rfl, pick ?_⟩)) (fun m s q => Or.inr (Or.inr (Or.inl ⟨rfl, _, rfl, pick ?_⟩))) (fun m s q1 q2 q3 z1 f1 y1 => Or.inr (Or.inr (Or.inr ⟨rfl, _, rfl, pick ?_⟩))) (fun m s q1 q2 q3 z1 f1 y1 y2 y3 y4 y5 y6 y7 y8 => Or.inl ⟨_, rfl, fun z2 e2 => ⟨_, rfl, pick ?_⟩⟩)⟩
    · unfold wc_law_1850
      exact ⟨i3, sr_kind (A := tq_al z 24) rA kr.2.1 kr.1 rc kt2 kw k6 (fun _ z' f e => ⟨_, rfl, gl_t n1 e (dn z' (Jj_f f (by decide) (by decide) hJ))⟩) (fun m s => absurd s (q m)) (fun m s => absurd s (q m)) (fun m s => absurd s (q m))⟩
    · unfold wc_law_1850
      exact ⟨i3, sr_kind (A := tq_al z 24) rA kr.2.1 kr.1 rc kt2 kw k6 (fun q2 => absurd s (q2 m)) (fun _ _ _ z' f e => ⟨_, rfl, gl_t n2 e (dn z' (Jj_f f (by decide) (by decide) hJ))⟩) (fun m' s' a1 a2 => (kind_no q a1 a2).elim) (fun m' s' a1 a2 => (kind_no q a1 a2).elim)⟩
    · unfold wc_law_1850
      have g1 : fr FMk z z1 := f1
      refine ⟨i3, sr_kind (A := tq_al z 24) (fun k hk i hi => by rw [fr_al g1 (by decide)]; exact rA k hk i hi) kr.2.1 ((fr_fi g1 (by decide)).trans kr.1) (fun k hk => by rw [fr_ai g1 (by decide)]; exact rc k hk) ((fr_fl g1 (by decide)).trans kt2) kw k6 (fun q4 => absurd s (q4 m)) (fun m' s' q4 => (kind_no q4 q1 q2).elim) (fun m' s' a1 a2 a3 z3 f3 v1 v2 e => ?_) (fun m' s' a1 a2 a3 => absurd q3 a3)⟩
      have g := gl_2 f1 f3
      refine ⟨_, rfl, gl_t n3 e (dn z3 (Jj_k hn g (by decide) ⟨?_, ?_, ks, (fr_fl g (by decide)).trans kt, (fr_fl g (by decide)).trans kt2, kw, k6, kf⟩ (Or.inl ⟨fr_fi g (by decide), jexc_f g (by decide) jx⟩) hJ))⟩
      · refine ⟨(fr_fi g (by decide)).trans kd.1, kd.2.1, fun k hk => ?_⟩
        obtain ⟨b1, b2, b3, b4⟩ := kd.2.2 k hk
        refine ⟨by rw [fr_ai g (by decide)]; exact b1, by rw [fr_ai g (by decide)]; exact b2, by rw [fr_ai g (by decide)]; exact b3, fun i hi => ?_⟩
        have := b1.2
        rw [fr_al f3 (by decide), y1 _ (by omega)]
        exact b4 i hi
      · refine ⟨(fr_fi g (by decide)).trans kr.1, kr.2.1, fun k hk => ?_⟩
        obtain ⟨b1, b2, b3⟩ := kr.2.2 k hk
        have := b1.2
        refine ⟨by rw [v2 k (by omega), fr_ai f1 (by decide)]; exact b1, by rw [fr_ai g (by decide)]; exact b2, fun i hi => ?_⟩
        rw [v1 _ (by omega), fr_al f1 (by decide)]
        exact b3 i hi
    · unfold wc_law_1850
      have g1 := gl_1 f1 (gl_f e2)
      refine ⟨i3, sr_kind (A := tq_al z 24) (fun k hk i hi => by rw [fr_al g1 (by decide)]; exact rA k hk i hi) kr.2.1 ((fr_fi g1 (by decide)).trans kr.1) (fun k hk => by rw [fr_ai g1 (by decide)]; exact rc k hk) ((fr_fl g1 (by decide)).trans kt2) kw k6 (fun q4 => absurd s (q4 m)) (fun m' s' q4 => (kind_no q4 q1 q2).elim) (fun m' s' a1 a2 a3 => absurd a3 q3) (fun m' s' a1 a2 a3 z3 f3 v1 v2 v3 v4 v5 v6 e3 => ?_)⟩
      have w1 := kmn_u s s'
      subst w1
      have g := gl_c f1 (gl_f e2) f3
      have g13 := gl_2 (gl_f e2) f3
      obtain ⟨c, d, t1, t2, t3, t4, t5, t6, t7, t8, t9⟩ := js
      obtain ⟨U, hU⟩ : ∃ U, U = pl (shf T) (mean s1 s0) 8 := ⟨_, rfl⟩
      rw [← hU] at y2 y3 v2 v3
      have U8 : U.1 ≤ 8 := by rw [hU]; exact pl_l 8
      refine ⟨_, rfl, gl_a e3 (gl_o e2 f3 (by decide)) (gl_g (hB z3 ⟨w, h, r, S, kN + 1, fun k => if k = kN then U.1 else C k, fun k => if k = kN then m' else M k, fun k => if k = kN then fb_ct (ct T) 64 else Z k, fun j => if 8 * kN ≤ j then U.2 (j - 8 * kN) else A j, 0, Jj_k hn g (by decide) ⟨?_, ?_, ?_, (fr_fl g13 (by decide)).trans y7, v6, wS_0, by rw [ct0_z]; omega, ?_⟩ (Or.inr (by rw [fr_fi g13 (by decide)]; exact y8)) hJ⟩))⟩
      · refine ⟨by rw [fr_fi g13 (by decide)]; exact y6, by omega, fun k hk => ?_⟩
        rw [fr_ai (k := 25) g13 (by decide), fr_ai (k := 26) g13 (by decide), fr_ai (k := 27) g13 (by decide), y3, y4, y5, fr_al (k := 24) g13 (by decide)]
        by_cases qk : k = kN
        · subst qk
          simp only [if_pos rfl]
          refine ⟨⟨rfl, U8⟩, ⟨rfl, s.2.1⟩, ⟨rfl, q1, k6⟩, fun i hi => ?_⟩
          rw [y2 i hi, if_pos (by omega), show 8 * k + i - 8 * k = i by omega]
        · simp only [if_neg qk]
          obtain ⟨b1, b2, b3, b4⟩ := kd.2.2 k (by omega)
          refine ⟨b1, b2, b3, fun i hi => ?_⟩
          have := b1.2
          rw [y1 _ (by omega), if_neg (by omega)]
          exact b4 i hi
      · refine ⟨v5, by omega, fun k hk => ?_⟩
        rw [v3, v4]
        by_cases qk : k = kN
        · subst qk
          simp only [if_pos rfl]
          refine ⟨⟨rfl, U8⟩, rfl, fun i hi => ?_⟩
          rw [v2 i hi, if_pos (by omega), show 8 * k + i - 8 * k = i by omega]
        · simp only [if_neg qk]
          rw [fr_ai (k := 68) g1 (by decide), fr_ai (k := 67) g1 (by decide)]
          obtain ⟨b1, b2, b3⟩ := kr.2.2 k (by omega)
          refine ⟨b1, b2, fun i hi => ?_⟩
          have := b1.2
          rw [v1 _ (by omega), fr_al (k := 69) g1 (by decide), if_neg (by omega)]
          exact b3 i hi
      · intro k hk i hi
        by_cases qk : k = kN
        · subst qk
          simp only [if_pos rfl] at hi ⊢
          rw [if_pos (by omega), show 8 * k + i - 8 * k = i by omega, hU]
          rw [hU] at hi
          exact shps_new kw q1 hi
        · simp only [if_neg qk] at hi ⊢
          have := (kd.2.2 k (by omega)).1.2
          rw [if_neg (by omega)]
          exact ks k (by omega) i hi
      · rw [hU]
        exact kfam_new kf (fun k hk => (kd.2.2 k hk).1.2) kw q1 k6 q3 (fun k hk i hi => (kd.2.2 k hk).2.2.2 i hi)
  unfold wc_law_1780
  refine ⟨i1, fun q => ?_, fun q => ?_⟩
  · unfold wc_law_1795
    exact ⟨i2, fun q2 => main 0 0 (fun _ => rfl) (fun q3 => absurd q q3) (fun _ => rfl) (fun q3 => absurd q2 q3), fun q2 => main 0 1 (fun _ => rfl) (fun q3 => absurd q q3) (fun q3 => absurd q3 q2) (fun _ => rfl)⟩
  · unfold wc_law_1795
    exact ⟨i2, fun q2 => main 1 0 (fun q3 => absurd q3 q) (fun _ => rfl) (fun _ => rfl) (fun q3 => absurd q2 q3), fun q2 => main 1 1 (fun q3 => absurd q3 q) (fun _ => rfl) (fun q3 => absurd q3 q2) (fun _ => rfl)⟩
theorem lz_1892 {K : Nat × (Nat → Int32)} {B : Int32 → tq_S → Prop} {Q : tq_O → tq_S → Prop} {a : Int32} {z : tq_S} {n : Nat} (hn : n < 512) (i1 : vp_in (a + 1) K.1) (i2 : vp_in (a + 2) K.1) (i3 : vp_in (a + 3) K.1) (hB : ∀ z', J (n + 1) z' → B (a + 4) z') (hJ : J n z) : wc_law_1892 K B Q a z := by
  obtain ⟨w, h, r, S, kN, C, M, Z, A, T, hJ⟩ := hJ
  have dn : ∀ z', Jj (n + 1) w h r S kN C M Z A T z' → wc_law_2748 K B Q a z' := fun z' j => gl_g (hB z' ⟨w, h, r, S, kN, C, M, Z, A, T, j⟩)
  obtain ⟨jb, jv, jk, ju, jt, js, jf, jh, jp, jx, ji⟩ := id hJ
  have hd := jb.1
  have hj := jb.2.1
  have hr := jb.2.2
  have hw8 := hd.2.1
  have hh8 := hd.2.2.2.1
  have n1 : ¬ (1 : Int32) = 0 := by decide +kernel
  have n2 : ¬ (2 : Int32) = 0 := by decide +kernel
  have n3 : ¬ (3 : Int32) = 0 := by decide +kernel
  obtain ⟨kd, kr, ks, kt, kt2, kw, k6, kf⟩ := ji
  unfold wc_law_1892
  refine sc_clear (fun z1 f1 y1 y2 y3 => ⟨_, rfl, sr_clear (fun z3 f3 e3 v1 v2 => ⟨_, rfl, fun _ => ?_, fun ne => absurd ?_ ne⟩)⟩)
  · have g := gl_2 f1 f3
    exact gl_g (hB z3 ⟨w, h, r, S, 0, C, M, Z, A, 0, Jj_k hn g (by decide) ⟨⟨by rw [fr_fi f3 (by decide)]; exact y2, by omega, fun k hk => absurd hk (by omega)⟩, ⟨v2, by omega, fun k hk => absurd hk (by omega)⟩, fun k hk => absurd hk (by omega), (fr_fl f3 (by decide)).trans y1, v1, wS_0, by rw [ct0_z]; omega, ⟨fun k hk => absurd hk (by omega), fun k k' i i' hk => absurd hk (by omega)⟩⟩ (Or.inr (by rw [fr_fi f3 (by decide)]; exact y3)) hJ⟩)
  · rw [kd.1, fr_fi f1 (by decide), kr.1]
