section REF
variable {w h : Nat} {r : Bool} {S : Nat → Bool} {z : tq_S} {Q : tq_O → tq_S → Prop} {K n P : Nat} {C M Z : Nat → Nat} {A : Nat → Int64} {f : Nat → plc} {st : Nat → Nat}
theorem pop_src (hd : jd w h r S) (hs : shps K C Z A) (h24 : fb_ct S 64 ≤ 24) {x : plc} (hx : srcs w h r S K C A x) : pop x.2.2.1 = Z x.2.1 := by
  obtain ⟨xK, xn, i, part, hi, hp, hb, e, -⟩ := hx
  obtain ⟨w1, w2, w3⟩ := hs _ xK i hi
  obtain ⟨⟨o1, o2⟩, o3⟩ := (cvF_t 36).1 _ e
  have mn := cvF_n2 e
  rw [← w3]
  refine Nat.le_antisymm ?_ ?_
  · have ch : ∀ b, ∃ j, x.2.2.1.testBit b = true → j < 36 ∧ ct (A (8 * x.2.1 + i)) j = true ∧ cvi w r S (kth S x.1 % 8) (kth S x.1 / 8) part j = (b : Int) := fun b => by
      by_cases q : x.2.2.1.testBit b = true
      · obtain ⟨j, j1, j2, j3⟩ := (o3 b).mp q
        exact ⟨j, fun _ => ⟨j1, j2, j3⟩⟩
      · exact ⟨0, fun u => absurd u q⟩
    refine cinj (N := 64) (R := ct (A (8 * x.2.1 + i))) (g := fun b => Classical.choose (ch b)) (fun b _ hb2 => ?_) (fun b b' _ _ h1 h2 e2 => ?_)
    · have := Classical.choose_spec (ch b) hb2
      exact ⟨by omega, this.2.1⟩
    · have a := (Classical.choose_spec (ch b) h1).2.2
      have a' := (Classical.choose_spec (ch b') h2).2.2
      have e2 : Classical.choose (ch b) = Classical.choose (ch b') := e2
      rw [e2, a'] at a
      omega
  · refine cinj (N := 24) (P := ct (A (8 * x.2.1 + i))) (n := 64) (R := fun b => x.2.2.1.testBit b) (g := fun j => (cvi w r S (kth S x.1 % 8) (kth S x.1 / 8) part j).toNat) (fun j _ hj => ?_) (fun j j' _ _ h1 h2 e2 => ?_)
    · have j36 := w1 j hj
      have c0 := o1 j j36 hj
      have tb : x.2.2.1.testBit (cvi w r S (kth S x.1 % 8) (kth S x.1 / 8) part j).toNat = true := (o3 _).mpr ⟨j, j36, hj, by omega⟩
      have := tb_in mn tb
      exact ⟨by omega, tb⟩
    · have c0 := o1 j (w1 j h1) h1
      have c0' := o1 j' (w1 j' h2) h2
      rcases Nat.lt_trichotomy j j' with u | u | u
      · exact absurd (show _ = _ by omega) (o2 j j' u (w1 j' h2) h1 h2)
      · exact u
      · exact absurd (show _ = _ by omega) (o2 j' j u (w1 j h1) h2 h1)
theorem prs_plg (hd : jd w h r S) (hs : shps K C Z A) (h24 : fb_ct S 64 ≤ 24) (hZ : ∀ k, k < K → 3 ≤ Z k) (h1 : prs w h r S K C A P f z) : plg S Z P f := by
  refine ⟨fun p hp => ?_, prs_ne hd h1⟩
  have sp := h1.2 p hp
  obtain ⟨a1, a2⟩ := src_f hd sp
  have pp := pop_src hd hs h24 sp
  obtain ⟨i, part, hi, hp2, hb, e, -⟩ := sp.2.2
  exact ⟨h1.1.2.2.1 p hp, cvF_n2 e, a1, a2, pp, by rw [pp]; exact hZ _ sp.1⟩
/-- where the first pieces are no more than the openings' room -/
theorem src_288 (hd : jd w h r S) (hC : ∀ k, k < K → C k ≤ 8) (hK : K ≤ 6) (h1 : prs w h r S K C A P f z) {t : Nat} (ht : t ≤ P) (h0 : ∀ p, p < t → (f p).1 = 0) : t ≤ 288 := by
  have ch : ∀ p, ∃ c, p < t → c < 288 ∧ ∃ i part, i < 8 ∧ part < 6 ∧ c = 6 * (8 * (f p).2.1 + i) + part ∧ cvF w r S (A (8 * (f p).2.1 + i)) (kth S 0 % 8) (kth S 0 / 8) part 0 36 = some (f p).2.2.1 := fun p => by
    by_cases q : p < t
    · obtain ⟨xK, xn, i, part, hi, hp, hb, e, -⟩ := h1.2 p (by omega)
      have c8 := hC _ xK
      rw [h0 p q] at e
      exact ⟨6 * (8 * (f p).2.1 + i) + part, fun _ => ⟨by omega, i, part, by omega, hp, rfl, e⟩⟩
    · exact ⟨0, fun e => absurd e q⟩
  have := cinj (N := 288) (P := fun _ => true) (R := fun _ => true) (g := fun p => Classical.choose (ch p)) (n := t) (fun p hp _ => ⟨(Classical.choose_spec (ch p) hp).1, rfl⟩) (fun p p' hp hp' _ _ e => by
    obtain ⟨i, part, a1, a2, a3, a4⟩ := (Classical.choose_spec (ch p) hp).2
    obtain ⟨i', part', b1, b2, b3, b4⟩ := (Classical.choose_spec (ch p') hp').2
    have e : Classical.choose (ch p) = Classical.choose (ch p') := e
    rw [e, b3] at a3
    have k1 : (f p).2.1 = (f p').2.1 := by omega
    have k2 : i = i' := by omega
    have k3 : part = part' := by omega
    rw [k1, k2, k3, b4] at a4
    exact prs_ne hd h1 p p' (by omega) (by omega) k1 (Option.some.inj a4).symm)
  rw [fb_ct_all.mpr (fun _ _ => rfl)] at this
  exact Nat.le_trans this (fb_ct_le _ _)
/-- the first state -/
def bgE (K : Nat) (M Z : Nat → Nat) (n : Nat) : Nat := encN 0 0 (bndl K Z n 0 (mst K M)) 0
theorem mst_15 (hM : ∀ j, j < K → M j ≤ 8) : l15 (mst K M) := fun j _ => by
  unfold mst
  by_cases u : j < K
  · rw [if_pos u]; have := hM j u; omega
  · rw [if_neg u]; omega
theorem bg_ok (hM : ∀ j, j < K → M j ≤ 8) : GG w h S (bgE K M Z (fb_ct S 64)) ∧ bgE K M Z (fb_ct S 64) % 2 ^ 24 = 0 ∧ bgE K M Z (fb_ct S 64) / 2 ^ 24 % 2 ^ 8 = 0 ∧ bgE K M Z (fb_ct S 64) / 2 ^ 56 = 0 := by
  have b15 := bndl_15 (K := K) (Z := Z) (n := fb_ct S 64) (c := 0) (mst_15 hM)
  have c0 : bgE K M Z (fb_ct S 64) % 2 ^ 24 = 0 := encN_c (by omega)
  have m0 : bgE K M Z (fb_ct S 64) / 2 ^ 56 = 0 := encN_m (by omega) (by omega) b15
  refine ⟨⟨encN_lt (by omega) (by omega) b15 (by omega), by rw [c0]; exact Nat.two_pow_pos _, Or.inl m0⟩, c0, ?_, m0⟩
  unfold bgE encN
  omega
/-- what the class knows of exact covers -/
def exc (w h : Nat) (r : Bool) (S : Nat → Bool) (K : Nat) (C M Z : Nat → Nat) (A : Nat → Int64) (P : Nat) (f : Nat → plc) (st : Nat → Nat) (g0 : Nat) (z : tq_S) : Prop := cnm S z ∧ grd w h r S g0 z ∧ exr (fb_ct S 64) P f st z ∧ prs w h r S K C A P f z ∧ (∀ fst k i part, fst < fb_ct S 64 → k < K → cdn w r S C A P f fst k i part) ∧ memo (VV (fb_ct S 64) P f (TT w h S K Z P f) WW) (GG w h S) z ∧ tq_fl z 1809 = lN (VV (fb_ct S 64) P f (TT w h S K Z P f) WW (bgE K M Z (fb_ct S 64))) ∧ (0 < fb_ct S 64 → ∀ i, i < st 1 → tq_al z 36 i = lN (match TT w h S K Z P f (bgE K M Z (fb_ct S 64)) i with | none => 0 | some e' => VV (fb_ct S 64) P f (TT w h S K Z P f) WW e'))
def FRf : List (Nat × Nat) := [(0, 1804), (2, 31), (2, 32), (2, 33), (0, 1806), (3, 29), (0, 1805), (2, 30), (3, 34), (3, 35), (0, 1807), (0, 1808), (1, 1810), (1, 1809), (3, 36)]
theorem tro_0 : tro 0 = 0 := tro_e (fun j hj => absurd hj (Nat.not_lt_zero _)) (fun _ => Nat.zero_testBit 0) (by omega)
/-- what the search wants, from what the class has -/
theorem exc_w (hd : jd w h r S) (hk : kdc K C M Z A z) (hx : exr (fb_ct S 64) P f st z) (hpl : plg S Z P f) (hv : ∀ m, m < 8 → gok w h S m = true → mvd w h S m z) : wth P f (TT w h S K Z P f) WW (GG w h S) z := by
  refine ⟨fun e i z1 Q' g1 he hi kk => ?_, fun e z1 Q' he kk => sq_weighT he.1 kk⟩
  exact sq_withT hd (kdc_f g1 (by decide) (by decide) (by decide) (by decide) (by decide) hk) (exr_f g1 (by decide) (by decide) (by decide) hx) hpl (fun m hm hg i hi => by rw [fr_ai g1 (by decide)]; exact hv m hm hg i hi) he hi kk
theorem sq_refresh4 (hd : jd w h r S) (hj : jc w h r S z) (hk : kdc K C M Z A z) (hs : shps K C Z A) (h24 : fb_ct S 64 ≤ 24) (k0 : tq_fi z 1807 = tq_fi z 68 → tq_fi z 1808 = tq_fi z 1478 → Q (.inl none) z) (k1 : ∀ z' P f st g, fr FRf z z' → exc w h r S K C M Z A P f st g z' → tq_fi z' 1807 = tq_fi z' 68 → tq_fi z' 1808 = tq_fi z' 1478 → tq_fl z' 1810 = -1 → Q (.inl none) z') : wm_X4_refresh z Q := by
  have hK := hk.2.1
  have hM : ∀ j, j < K → M j ≤ 8 := fun j hj => (hk.2.2 j hj).2.1.2
  have hC : ∀ k, k < K → C k ≤ 8 := fun k hk' => (hk.2.2 k hk').1.2
  have hZ : ∀ k, k < K → 3 ≤ Z k := fun k hk' => (hk.2.2 k hk').2.2.1.2.1
  have main : wc_X4_refresh_29 Q z := by
    unfold wc_X4_refresh_29
    refine sq_numberCells hj h24 (fun z1 f1 n1 => ⟨rfl, ?_⟩)
    have j1 := jc_f f1 (by decide) (by decide) (by decide) (by decide) hj
    refine sq_findGroup hd j1 n1 h24 (fun z2 f2 hg => ⟨rfl, ?_⟩)
    obtain ⟨g0, g2⟩ := hg
    have f12 : fr FRf z z2 := fr_t (fr_m (by decide) f1) (fr_m (by decide) f2)
    have n2 := cnm_f f2 (by decide) (by decide) (by decide) n1
    have k2 := kdc_f f12 (by decide) (by decide) (by decide) (by decide) (by decide) hk
    have j2 := jc_f f12 (by decide) (by decide) (by decide) (by decide) hj
    refine sq_collect (g0 := g0) hd hs h24 ⟨j2, n2, g2, k2⟩ (fun z3 P f st f3 r3 s3 t3 d3 => ⟨rfl, ?_⟩)
    have P12 := src_le hd hC hK hs h24 r3.2 (prs_ne hd r3)
    have pl := prs_plg hd hs h24 hZ r3
    have st3 : cst w h r S K C M Z A g0 z3 := cst_f f3 (by decide) (by decide) (by decide) (by decide) (by decide) (by decide) (by decide) (by decide) (by decide) (by decide) (by decide) (by decide) (by decide) (by decide) ⟨j2, n2, g2, k2⟩
    have x3 : exr (fb_ct S 64) P f st z3 := ⟨st3.2.1.1, h24, P12, fun p hp => ⟨r3.1.2.1 p hp, r3.1.2.2.1 p hp⟩, s3, t3⟩
    refine fw_J7_fill_d0a16_r7 ⟨rfl, ?_⟩
    intro z5 e5 z6 e6 z7 e7
    obtain ⟨z4, e4⟩ : ∃ z4, z4 = fl_l z3 34 0 2048 0 := ⟨_, rfl⟩
    rw [← e4] at e5
    have f4 : fr [(3, 34), (0, 1807), (0, 1808), (1, 1810)] z3 z7 := by
      rw [e7]
      refine fr_sfl (by decide) ?_
      rw [e6]
      refine fr_sfi (by decide) ?_
      rw [e5]
      refine fr_sfi (by decide) ?_
      rw [e4]
      unfold fl_l
      exact fr_sal (by decide) fr_r
    have a34 : ∀ s, s < 2048 → tq_al z7 34 s = 0 := fun s hs' => by
      have : tq_al z7 34 = tq_al z4 34 := by rw [e7, e6, e5]; rfl
      rw [this, e4]
      unfold fl_l
      rw [rw_ale, if_pos (by omega)]
    have c1807 : tq_fi z7 1807 = tq_fi z7 68 := by rw [e7, e6, e5]; rfl
    have c1808 : tq_fi z7 1808 = tq_fi z7 1478 := by rw [e7, e6, e5]; rfl
    have c1810 : tq_fl z7 1810 = -1 := by rw [e7, rw_fle]
    have st7 := cst_f f4 (by decide) (by decide) (by decide) (by decide) (by decide) (by decide) (by decide) (by decide) (by decide) (by decide) (by decide) (by decide) (by decide) (by decide) st3
    have x7 := exr_f f4 (by decide) (by decide) (by decide) x3
    have r7 : prs w h r S K C A P f z7 := ⟨⟨by rw [fr_fi f4 (by decide)]; exact r3.1.1, fun p hp => by rw [fr_al f4 (by decide)]; exact r3.1.2.1 p hp, r3.1.2.2⟩, r3.2⟩
    have f07 : fr FRf z z7 := fr_t f12 (fr_t (fr_m (by decide) f3) (fr_m (by decide) f4))
    clear e5 e6 e7 e4
    obtain ⟨bg1, bg2, bg3, bg4⟩ := bg_ok (w := w) (h := h) (S := S) (K := K) (M := M) (Z := Z) hM
    obtain ⟨e0, he0⟩ : ∃ e0, e0 = bgE K M Z (fb_ct S 64) := ⟨_, rfl⟩
    rw [← he0] at bg1 bg2 bg3 bg4
    have tg := TT_g (w := w) (h := h) (S := S) (K := K) pl h24
    have fin : ∀ z8, fr [(3, 34), (3, 35), (1, 1809), (3, 36)] z7 z8 → memo (VV (fb_ct S 64) P f (TT w h S K Z P f) WW) (GG w h S) z8 → tq_fl z8 1809 = lN (VV (fb_ct S 64) P f (TT w h S K Z P f) WW e0) → (0 < fb_ct S 64 → ∀ i, i < st 1 → tq_al z8 36 i = lN (match TT w h S K Z P f e0 i with | none => 0 | some e' => VV (fb_ct S 64) P f (TT w h S K Z P f) WW e')) → Q (.inl none) z8 := by
      intro z8 f8 m8 t8 o8
      have st8 := cst_f f8 (by decide) (by decide) (by decide) (by decide) (by decide) (by decide) (by decide) (by decide) (by decide) (by decide) (by decide) (by decide) (by decide) (by decide) st7
      refine k1 z8 P f st g0 (fr_t f07 (fr_m (by decide) f8)) ⟨st8.2.1, st8.2.2.1, exr_f f8 (by decide) (by decide) (by decide) x7, ⟨⟨by rw [fr_fi f8 (by decide)]; exact r7.1.1, fun p hp => by rw [fr_al f8 (by decide)]; exact r7.1.2.1 p hp, r7.1.2.2⟩, r7.2⟩, d3, m8, by rw [← he0]; exact t8, by rw [← he0]; exact o8⟩ ?_ ?_ ?_
      · rw [fr_fi f8 (by decide), fr_fi (k := 68) f8 (by decide)]; exact c1807
      · rw [fr_fi f8 (by decide), fr_fi (k := 1478) f8 (by decide)]; exact c1808
      · rw [fr_fl f8 (by decide)]; exact c1810
    have st0 : st 0 = 0 := by
      refine Classical.byContradiction fun u => ?_
      have l := (s3 0 (by omega)).2
      have := (t3 0 (by omega) 0 (by omega)).mp (by omega)
      omega
    have run : ∀ z8, fr [(3, 34), (3, 35), (1, 1809), (3, 36)] z7 z8 → tq_fl z8 1809 = (if fb_ct S 64 = 0 then lN 1 else lN 0) → memo (VV (fb_ct S 64) P f (TT w h S K Z P f) WW) (GG w h S) z8 → wc_X4_refresh_96 Q 0 z8 := by
      intro z8 f8 t8 m8
      unfold wc_X4_refresh_96
      by_cases n0 : fb_ct S 64 = 0
      · rw [if_pos n0] at t8
        refine lp_inv (fun i st' => st' = (nI i, z8) ∧ i = 0) 0 ?_ ⟨rfl, rfl⟩
        rintro i st' hi ⟨rfl, rfl⟩ B hB
        simp only
        have x8 := exr_f f8 (by decide) (by decide) (by decide) x7
        unfold wb_X4_refresh_96
        rw [x8.1, n0]
        refine sp_min _ ?_
        refine ⟨_, rfl, ?_⟩
        rw [show (if nI 0 < (1 : Int32) then nI 0 else (1 : Int32)) = nI 0 from by decide +kernel]
        dsimp only
        rw [i_cl (by omega), (x8.2.2.2.2.1 0 (by omega)).1, st0]
        refine ⟨i_in (by omega) (by omega), fun _ => ?_, fun u => absurd ((i_le (by omega) (by omega)).mpr (Nat.le_refl 0)) u⟩
        refine fin z8 f8 m8 ?_ (fun u => absurd u (by omega))
        rw [t8, VV_e (by omega)]
        unfold WW
        rw [bg3]
        rfl
      · rw [if_neg n0] at t8
        have s1 := (x7.2.2.2.2.1 1 (by omega))
        have le1 := src_288 hd hC hK r7 s1.2 (fun p hp => by
          have := (x7.2.2.2.2.2 1 (by omega) p (by omega)).mp hp
          omega)
        have tr0 : tro (e0 % 2 ^ 24) = 0 := by rw [bg2, tro_0]
        have no : ¬ fb_ct S 64 ≤ tro (e0 % 2 ^ 24) := by omega
        have vs := VV_s (f := f) (W := WW) h24 tg bg1 no
        have vs : VV (fb_ct S 64) P f (TT w h S K Z P f) WW e0 = psm (fb_ct S 64) P f (TT w h S K Z P f) WW e0 P := vs
        have ph := psm_hi (T := TT w h S K Z P f) (W := WW) x7.2.2.2.2.2 (e := e0) (i := st 1) (by omega) s1.2 (by rw [tr0]; exact Nat.le_refl _)
        refine lp_inv (fun i st' => ∃ z9, st' = (nI i, z9) ∧ fr [(3, 34), (3, 35), (1, 1809), (3, 36)] z7 z9 ∧ memo (VV (fb_ct S 64) P f (TT w h S K Z P f) WW) (GG w h S) z9 ∧ tq_fl z9 1809 = lN (psm (fb_ct S 64) P f (TT w h S K Z P f) WW e0 i) ∧ ∀ j, j < i → tq_al z9 36 j = lN (match TT w h S K Z P f e0 j with | none => 0 | some e' => VV (fb_ct S 64) P f (TT w h S K Z P f) WW e')) (st 1) ?_ ⟨z8, rfl, f8, m8, t8, fun j hj => absurd hj (Nat.not_lt_zero _)⟩
        rintro i st' hi ⟨z9, rfl, f9, m9, t9, o9⟩ B hB
        simp only
        have x9 := exr_f f9 (by decide) (by decide) (by decide) x7
        have st9 := cst_f f9 (by decide) (by decide) (by decide) (by decide) (by decide) (by decide) (by decide) (by decide) (by decide) (by decide) (by decide) (by decide) (by decide) (by decide) st7
        unfold wb_X4_refresh_96
        rw [x9.1]
        refine sp_min _ ?_
        refine ⟨_, rfl, ?_⟩
        have mn : (if nI (fb_ct S 64) < (1 : Int32) then nI (fb_ct S 64) else (1 : Int32)) = nI 1 := by
          refine if_neg ?_
          rw [i_1, i_lt (by omega) (by omega)]; omega
        rw [mn]
        dsimp only
        rw [i_cl (by omega), (x9.2.2.2.2.1 1 (by omega)).1, i_le (by omega) (by omega)]
        refine ⟨i_in (by omega) (by omega), fun u => ?_, fun u => ?_⟩
        · have : i = st 1 := by omega
          subst this
          exact fin z9 f9 m9 (by rw [vs, ph]; exact t9) (fun _ j hj => o9 j hj)
        rw [show (288 : Int32) = nI 288 from rfl, i_le (by omega) (by omega)]
        refine ⟨fun u2 => absurd u2 (by omega), fun _ => ?_⟩
        refine sq_beginning st9.2.2.2 x9.1 h24 ⟨_, rfl, ?_⟩
        rw [show encN 0 0 (bndl K Z (fb_ct S 64) 0 (mst K M)) 0 = e0 from he0.symm]
        dsimp only
        rw [i_cl (by omega), (x9.2.2.2.1 i (by omega)).1]
        refine ⟨i_in (by omega) (by omega), ?_⟩
        have fi : (f i).1 = tro (e0 % 2 ^ 24) := by
          have := (x7.2.2.2.2.2 1 (by omega) i (by omega)).mp (by omega)
          omega
        have ps : psm (fb_ct S 64) P f (TT w h S K Z P f) WW e0 (i + 1) = psm (fb_ct S 64) P f (TT w h S K Z P f) WW e0 i + (match TT w h S K Z P f e0 i with | none => 0 | some e' => VV (fb_ct S 64) P f (TT w h S K Z P f) WW e') := by
          unfold psm
          rw [fb_sm_succ, if_pos fi]
          rfl
        have put : ∀ z10 v, fr [(3, 34), (3, 35), (1, 1809), (3, 36)] z9 z10 → tq_fl z10 1809 = tq_fl z9 1809 → tq_al z10 36 = tq_al z9 36 → memo (VV (fb_ct S 64) P f (TT w h S K Z P f) WW) (GG w h S) z10 → v = lN (match TT w h S K Z P f e0 i with | none => 0 | some e' => VV (fb_ct S 64) P f (TT w h S K Z P f) WW e') → wc_X4_refresh_156 (fun b1 z => B (b1, z)) Q (nI i) v (nI i) z10 := by
          intro z10 v f10 q1 q2 m10 hv
          unfold wc_X4_refresh_156
          refine ⟨i_in (by omega) (by omega), fun z11 e11 => ⟨i_in (by omega) (by omega), fun z12 e12 v2 e13 => ?_⟩⟩
          rw [i_cl (by omega)] at e11 e12
          rw [i_1, i_add] at e13
          subst e13
          have a36 : ∀ j, tq_al z11 36 j = if j = i then v else tq_al z9 36 j := fun j => by rw [e11, rw_ale, rw_updL, q2]
          have b36 : tq_al z12 36 = tq_al z11 36 := by rw [e12]; rfl
          refine hB (by omega) _ ⟨z12, rfl, ?_, fun s hs' => ?_, ?_, fun j hj => ?_⟩
          · rw [e12]
            refine fr_sfl (by decide) ?_
            rw [e11]; exact fr_sal (by decide) (fr_t f9 f10)
          · have c1 : tq_al z12 34 = tq_al z10 34 := by rw [e12, e11]; rfl
            have c2 : tq_al z12 35 = tq_al z10 35 := by rw [e12, e11]; rfl
            rw [c1, c2]; exact m10 s hs'
          · have t11 : tq_fl z11 1809 = tq_fl z9 1809 := by rw [e11]; exact q1
            rw [e12, rw_fle, t11, t9, a36, if_pos rfl, hv, l_add, ps]
          · rw [b36, a36]
            by_cases u3 : j = i
            · rw [if_pos u3, hv, u3]
            · rw [if_neg u3]; exact o9 j (by omega)
        refine sq_withT hd st9.2.2.2 x9 pl (fun m hm hg => st9.2.2.1.2.2.2 m hm hg) bg1 (by omega) ⟨_, rfl, ?_⟩
        cases t : TT w h S K Z P f e0 i with
        | none =>
          refine ⟨fun u3 => absurd u3 (by decide +kernel), fun _ => put z9 0 fr_r rfl rfl m9 (by rw [t]; rfl)⟩
        | some e' =>
          obtain ⟨q1, q2⟩ := tg.2 e0 i e' bg1 (by omega) t
          have e60 := (tg.1 e' q1).1
          show (0 ≤ lN e' → _) ∧ (¬ 0 ≤ lN e' → _)
          rw [show (0 : Int64) = lN 0 from rfl, pk_lLE (by omega) (by omega)]
          refine ⟨fun _ => ?_, fun u3 => absurd (Nat.zero_le _) u3⟩
          refine sq_search x9 tg (exc_w hd st9.2.2.2 x9 pl (fun m hm hg => st9.2.2.1.2.2.2 m hm hg)) 7 40 1 e' z9 _ (by omega) (by omega) q1 (by omega) fr_r m9 (fun z10 f10 m10 => ⟨_, rfl, put z10 _ (fr_m (by decide) f10) (fr_fl f10 (by decide)) (fr_al f10 (by decide)) m10 (by rw [t])⟩)
    have m7 : ∀ z8, fr [(1, 1809)] z7 z8 → memo (VV (fb_ct S 64) P f (TT w h S K Z P f) WW) (GG w h S) z8 := fun z8 f8 s hs' => Or.inl (by rw [fr_al f8 (by decide)]; exact a34 s hs')
    have go : ∀ v : Int64, v = (if fb_ct S 64 = 0 then lN 1 else lN 0) → wc_X4_refresh_91 Q v z7 := by
      intro v hv
      unfold wc_X4_refresh_91
      intro z8 e8
      have f8 : fr [(1, 1809)] z7 z8 := by rw [e8]; exact fr_sfl (by decide) fr_r
      exact run z8 (fr_m (by decide) f8) (by rw [e8, rw_fle, hv]) (m7 z8 f8)
    rw [x7.1, show (0 : Int32) = nI 0 from rfl, i_eq (by omega) (by omega)]
    exact ⟨fun u => go 0 (by rw [if_neg u]; rfl), fun u => go 1 (by rw [if_pos u]; rfl)⟩
  unfold wm_X4_refresh
  exact ⟨fun _ => main, fun a => ⟨fun _ => main, fun b => k0 a b⟩⟩
end REF
