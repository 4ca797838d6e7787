section STP
variable {w h : Nat} {r : Bool} {S : Nat → Bool} {z : tq_S} {Q : tq_O → tq_S → Prop}
def FHx : List (Nat × Nat) := [(3, 4), (3, 5), (3, 6), (3, 7)]
theorem sq_fillHaving3 (hd : jd w h r S) (hj : jc w h r S z) (hc : tq_fi z 134 = tq_fi z 68 → fro w h r S z) (hh : tq_fi z 135 = tq_fi z 68 → hvt w h r S z ∧ hvz w h r S z) (k : ∀ z', fr FH z z' → hvt w h r S z' ∧ hvz w h r S z' → tq_fi z' 135 = tq_fi z' 68 → (tq_fi z' 134 = tq_fi z' 68 → fro w h r S z') → (tq_fi z' 134 = tq_fi z 134 ∨ tq_fi z' 134 = tq_fi z' 68) → Q (.inl none) z') : wm_X5_fillHaving z Q := by
  have hw8 := hd.2.1
  have hw1 := hd.1
  have hh8 := hd.2.2.2.1
  have hh1 := hd.2.2.1
  obtain ⟨N, hN⟩ : ∃ N : Nat, N = 512 := ⟨_, rfl⟩
  obtain ⟨M, hM2⟩ : ∃ M : Nat, M = 2048 := ⟨_, rfl⟩
  have hM : M = 4 * N := by omega
  unfold wm_X5_fillHaving
  refine ⟨fun h1 => ?_, fun h1 => k z fr_r (hh h1) h1 hc (Or.inl rfl)⟩
  refine sq_total hd hj hc (fun z1 f1 g1 c1 => ⟨_, rfl, ?_⟩)
  have j1 := jc_f f1 (by decide) (by decide) (by decide) (by decide) hj
  refine fw_J7_fill_d0a16_r2 ⟨rfl, ?_⟩
  refine fw_J7_fill_d0a16_r3 ⟨rfl, ?_⟩
  intro z5 e5
  have f15 : fr [(3, 7), (3, 5)] z1 z5 := by
    rw [e5]; unfold fl_l
    exact fr_sal (by decide) (fr_sal (by decide) (fr_sal (by decide) fr_r))
  have f5 : fr FHx z1 z5 := fr_m (by decide) f15
  have a5 : ∀ st, st < 512 → tq_al z5 5 st = lN (hY w h r S M 0 st) := by
    intro st hst
    show _ = lN (if st = 0 then 1 else 0)
    rw [e5, rw_ale, rw_updL, i_0, i_cl (by omega)]
    by_cases q : st = 0
    · rw [if_pos q, if_pos q]; rfl
    · rw [if_neg q, if_neg q]
      unfold fl_l
      rw [rw_ale]
      show (if 0 ≤ st ∧ st < 512 then (0 : Int64) else _) = _
      rw [if_pos ⟨by omega, hst⟩]; rfl
  have a7 : hvp w h r S (8 * 0) z5 := by
    intro x y W hx hy hp _ _
    have hl := hdx_lt hw8 hw1 hh8 hx hy hp
    rw [if_neg (by omega)]
    have e7 : tq_al z5 7 = tq_al (fl_l z1 7 0 128 0) 7 := by
      rw [e5]
      have f' : fr [(3, 5)] (fl_l z1 7 0 128 0) (tq_sal (fl_l (fl_l z1 7 0 128 0) 5 0 512 0) 5 (vp_updL (tq_al (fl_l (fl_l z1 7 0 128 0) 5 0 512 0) 5) (Int32.toNatClampNeg 0) 1)) := by
        refine fr_sal (by decide) ?_
        unfold fl_l
        exact fr_sal (by decide) fr_r
      exact fr_al f' (by decide)
    rw [e7]
    unfold fl_l
    rw [rw_ale]
    show (if 0 ≤ hdx w x y W ∧ hdx w x y W < 128 then (0 : Int64) else _) = _
    rw [if_pos ⟨by omega, hl⟩]
  have b7 : hvz w h r S z5 := by
    intro i hi _
    have e7 : tq_al z5 7 = tq_al (fl_l z1 7 0 128 0) 7 := by
      rw [e5]
      have f' : fr [(3, 5)] (fl_l z1 7 0 128 0) (tq_sal (fl_l (fl_l z1 7 0 128 0) 5 0 512 0) 5 (vp_updL (tq_al (fl_l (fl_l z1 7 0 128 0) 5 0 512 0) 5) (Int32.toNatClampNeg 0) 1)) := by
        refine fr_sal (by decide) ?_
        unfold fl_l
        exact fr_sal (by decide) fr_r
      exact fr_al f' (by decide)
    rw [e7]
    unfold fl_l
    rw [rw_ale]
    show (if 0 ≤ i ∧ i < 128 then (0 : Int64) else _) = _
    rw [if_pos ⟨by omega, hi⟩]
  unfold wc_X5_fillHaving_45
  refine lp_inv (fun y t => ∃ z', t = (nI y, z') ∧ fr FHx z1 z' ∧ fro w h r S z' ∧ (∀ st, st < 512 → tq_al z' 5 st = lN (hY w h r S M y st)) ∧ hvp w h r S (8 * y) z' ∧ hvz w h r S z') h ?_ ⟨z5, rfl, f5, fro_f f15 (by decide) g1, a5, a7, b7⟩
  rintro y t hyh ⟨z6, rfl, f6, g6, a6, v6, w6⟩ B hB
  simp only
  have j6 := jc_f f6 (by decide) (by decide) (by decide) (by decide) j1
  unfold wb_X5_fillHaving_45
  rw [j6.2.1]
  refine ⟨fun h2 => ?_, fun h2 => ?_⟩
  · rw [i_le (by omega) (by omega)] at h2
    have : y = h := by omega
    subst this
    unfold wc_X5_fillHaving_117
    intro z7 e7
    have f67 : fr [(0, 135)] z6 z7 := by rw [e7]; exact fr_sfi (by decide) fr_r
    refine k z7 (fr_t (fr_m (by decide) f1) (fr_t (fr_m (by decide) f6) (fr_m (by decide) f67))) ⟨fun x y' W hx hy hp sa sb => ?_, fun i hi no => by rw [fr_al f67 (by decide)]; exact w6 i hi no⟩ (by rw [e7, rw_fie]; rfl) (fun _ => fro_f f67 (by decide) g6) (Or.inr (by rw [fr_fi (k := 134) f67 (by decide), fr_fi (k := 68) f67 (by decide), fr_fi (k := 134) f6 (by decide), fr_fi (k := 68) f6 (by decide)]; exact c1))
    rw [fr_al f67 (by decide), v6 x y' W hx hy hp sa sb, if_pos (by omega)]
  · rw [i_le (by omega) (by omega)] at h2
    have hy : y < h := by omega
    refine sq_prep (b := none) hd j6 hy (fun m e => (by cases e)) (g6 (y + 1) (by omega)) (fun z7 f7 g7 => ⟨rfl, ?_⟩)
    unfold wc_X5_fillHaving_64
    refine lp_inv (fun x t => ∃ z', t = (nI x, z') ∧ fr FHx z1 z' ∧ fro w h r S z' ∧ fce w r S none y 0 z' ∧ (∀ st, st < 512 → tq_al z' 5 st = lN (hX w h r S M y (hY w h r S M y) x st)) ∧ hvp w h r S (8 * y + x) z' ∧ hvz w h r S z') w ?_ ⟨z7, rfl, fr_t f6 (fr_m (by decide) f7), fro_f f7 (by decide) g6, g7, fun st hst => by rw [fr_al f7 (by decide)]; exact a6 st hst, fun x' y' W hx hy hp sa sb => by rw [fr_al f7 (by decide)]; exact v6 x' y' W hx hy hp sa sb, fun i hi no => by rw [fr_al f7 (by decide)]; exact w6 i hi no⟩
    rintro x t hxw ⟨z8, rfl, f8, g8, c8, a8, v8, w8⟩ B2 hB2
    simp only
    have j8 := jc_f f8 (by decide) (by decide) (by decide) (by decide) j1
    unfold wb_X5_fillHaving_64
    rw [j8.1]
    refine ⟨fun h3 => ?_, fun h3 => ?_⟩
    · rw [i_le (by omega) (by omega)] at h3
      have : x = w := by omega
      subst this
      unfold wc_X5_fillHaving_111
      intro v e
      rw [i_1, i_add] at e
      subst e
      refine hB hy _ ⟨z8, rfl, f8, g8, fun st hst => by rw [hY_S]; exact a8 st hst, fun x' y' W hx' hy' hp sa sb => ?_, w8⟩
      rw [v8 x' y' W hx' hy' hp sa sb]
      by_cases q : 8 * y' + x' < 8 * y + x
      · rw [if_pos q, if_pos (by omega)]
      · rw [if_neg q, if_neg (by omega)]
    · rw [i_le (by omega) (by omega)] at h3
      have hx : x < w := by omega
      refine fw_J7_fill_d0a16_r4 ⟨rfl, ?_⟩
      have f9 : fr [(3, 6)] z8 (fl_l z8 6 0 512 0) := by unfold fl_l; exact fr_sal (by decide) fr_r
      have j9 := jc_f f9 (by decide) (by decide) (by decide) (by decide) j8
      refine sq_goOn (C := hX w h r S M y (hY w h r S M y) x) hd j9 hx hy (fce_g f9 (by decide) c8) (fun st hst => by rw [fr_al f9 (by decide)]; exact a8 st hst) (fun st u => (supX hd (fun st u => (supY hd y st u).1) x (by omega) st u).1) (fun n hn => ?_) (fun z10 f10 g10 t10 => ⟨rfl, ?_⟩)
      · unfold fl_l
        rw [rw_ale]
        show (if 0 ≤ n ∧ n < 512 then (0 : Int64) else _) = _
        rw [if_pos ⟨by omega, hn⟩]
      · rw [← hM2] at g10 t10
        have f810 : fr [(3, 6), (3, 7)] z8 z10 := fr_t (fr_m (by decide) f9) f10
        show (¬ (0 : Int32) < 0) ∧ _
        rw [i_512, i_cl (by omega), i_0, i_cl (by omega)]
        refine ⟨i_n0 (by omega), i_n0 (by omega), i_n0 (by omega), by omega, by omega, fun z11 e11 v12 e12 => ?_⟩
        rw [i_1, i_add] at e12
        subst e12
        have f11 : fr [(3, 5)] z10 z11 := by rw [e11]; exact fr_sal (by decide) fr_r
        have f811 : fr [(3, 6), (3, 7), (3, 5)] z8 z11 := fr_t (fr_m (by decide) f810) (fr_m (by decide) f11)
        refine hB2 hx _ ⟨z11, rfl, fr_t f8 (fr_m (by decide) f811), fro_f f811 (by decide) g8, fce_g f811 (by decide) c8, fun st hst => ?_, fun x' y' W hx' hy' hp sa sb => ?_, fun i hi no => ?_⟩
        · rw [e11, rw_ale, pk_cpy_in (by omega) (by omega)]
          have e13 : 0 + (st - 0) = st := by omega
          rw [e13, g10 st hst, hX_S]
        · have hl := hdx_lt hw8 hw1 hh8 hx' hy' hp
          have e14 : tq_al (fl_l z8 6 0 512 0) 7 = tq_al z8 7 := fr_al f9 (by decide)
          rw [fr_al f11 (by decide), t10 _ hl, e14, v8 x' y' W hx' hy' hp sa sb]
          by_cases q : 8 * y' + x' = 8 * y + x
          · have q1 : x' = x := by omega
            have q2 : y' = y := by omega
            subst q1
            subst q2
            rw [if_neg (by omega), if_pos (by omega), hT_self hd hN hM hx hy hp sa sb, Int64.zero_add]
          · rw [hT_oth hd hN hM hx hy hx' hy' hp q, ← l_0, Int64.add_zero]
            by_cases q3 : 8 * y' + x' < 8 * y + x
            · rw [if_pos q3, if_pos (by omega)]
            · rw [if_neg q3, if_neg (by omega)]
        · have e14 : tq_al (fl_l z8 6 0 512 0) 7 = tq_al z8 7 := fr_al f9 (by decide)
          rw [fr_al f11 (by decide), t10 _ hi, e14, w8 i hi no, hT_no hd hx hy hi no, ← l_0, Int64.add_zero]
theorem sc_having3 {X Y D : Int32} (hd : jd w h r S) (hj : jc w h r S z) (hc : tq_fi z 134 = tq_fi z 68 → fro w h r S z) (hh : tq_fi z 135 = tq_fi z 68 → hvt w h r S z ∧ hvz w h r S z) (k0 : (∀ x y o, ¬ pcn w h r S X Y D x y o) → Q (.inr 3) z) (k1 : ∀ x y o, pcn w h r S X Y D x y o → ∀ z1 z', fr FH z z1 → fr FT z1 z' → hvt w h r S z1 ∧ hvz w h r S z1 → tq_fi z1 135 = tq_fi z1 68 → (tq_fi z1 134 = tq_fi z1 68 → fro w h r S z1) → (tq_fi z1 134 = tq_fi z 134 ∨ tq_fi z1 134 = tq_fi z1 68) → ctx z' (tn false (cv_T w r 0 (cv_rm S (8 * y + x) o))) → Q (.inl (some (.int (nI (tn false (cv_T w r 0 (cv_rm S (8 * y + x) o))).length)))) z') : wm_X11_having X Y D z Q := by
  unfold wm_X11_having
  refine sq_isPiece hd hj (fun u => ⟨_, rfl, fun h1 => absurd rfl h1, fun _ => k0 u⟩) (fun x y o hp => ⟨_, rfl, fun _ => ?_, fun h1 => absurd h1 (by decide +kernel)⟩)
  refine sq_fillHaving3 hd hj hc hh (fun z1 f1 v1 c1 g1 s1 => ⟨rfl, ?_⟩)
  refine sq_withPiece hd v1.1 hp ⟨_, rfl, ?_⟩
  exact sq_say (neg := false) (pc_big hd (fun j hj => (cv_rm_t.mp hj).1)) (fun q => (by cases q)) (fun z2 f2 t2 => ⟨_, rfl, k1 x y o hp z1 z2 f1 f2 v1 c1 g1 s1 t2⟩)
theorem sn_counts3 (hd : jd w h r S) (hj : jc w h r S z) (hc : tq_fi z 134 = tq_fi z 68 → fro w h r S z) (k : ∀ z', fr [(3, 3), (3, 4), (0, 134), (3, 17), (3, 18)] z z' → (tq_fi z' 134 = tq_fi z' 68 → fro w h r S z') → (tq_fi z' 134 = tq_fi z 134 ∨ tq_fi z' 134 = tq_fi z' 68) → Q (.inl (some (.int 1))) z') : wm_X11_countsAgree z Q := by
  unfold wm_X11_countsAgree
  refine sc_plain hd hj ⟨_, rfl, fun q => ?_, fun q => ?_⟩
  · exact k z fr_r hc (Or.inl rfl)
  · rw [bi_n] at q
    simp only [Bool.and_eq_true, Bool.not_eq_true', decide_eq_true_eq] at q
    obtain ⟨rfl, g⟩ := q
    refine sq_total hd hj hc (fun z1 f1 c1 e1 => ⟨_, rfl, ?_⟩)
    have j1 := jc_f f1 (by decide) (by decide) (by decide) (by decide) hj
    refine sq_signs hd g j1 (fun z2 f2 => ⟨_, rfl, fun u => absurd rfl u, fun _ => ?_⟩)
    refine k z2 (fr_t (fr_m (by decide) f1) (fr_m (by decide) f2)) (fun _ => fro_f f2 (by decide) c1) (Or.inr (by rw [fr_fi (k := 134) f2 (by decide), fr_fi (k := 68) f2 (by decide)]; exact e1))
theorem sn_number3 {p : Nat → Nat} {b0 : Bool} (hd : jd w h r S) (hj : jc w h r S z) (hc : tq_fi z 134 = tq_fi z 68 → fro w h r S z) (hb : tq_fi z 516 = bi b0) (hp : b0 = true → cvo w r S p (tq_fl z 517) (tq_fl z 518)) (k : ∀ z', fr [(3, 3), (3, 4), (0, 134), (1, 136), (1, 137)] z z' → (tq_fi z' 134 = tq_fi z' 68 → fro w h r S z') → (tq_fi z' 134 = tq_fi z 134 ∨ tq_fi z' 134 = tq_fi z' 68) → Q (.inl (some (.int 1))) z') : wm_X11_numberIsSound z Q := by
  have hT := T_b hd
  unfold wm_X11_numberIsSound
  rw [hb]
  refine ⟨fun q => ?_, fun q => k z fr_r hc (Or.inl rfl)⟩
  rw [bi_n] at q
  have hp := hp q
  obtain ⟨rb, ru⟩ := rk_ok hd.2.1 (jd_r hd) rfl (jd_bh hd) hp.1
  refine sq_total hd hj hc (fun z1 f1 g1 c1 => ⟨_, rfl, ?_⟩)
  have j1 := jc_f f1 (by decide) (by decide) (by decide) (by decide) hj
  refine sq_crank hd j1 g1 hp.1 (by rw [fr_fl f1 (by decide)]; exact hp.2.1) (by rw [fr_fl f1 (by decide)]; exact hp.2.2) (fun z2 f2 => ⟨_, rfl, ?_⟩)
  have j2 := jc_f f2 (by decide) (by decide) (by decide) (by decide) j1
  have g2 := fro_f f2 (by decide) g1
  refine sq_cmake hd j2 g2 rb (fun z3 f3 m3 n3 => ⟨rfl, ?_⟩)
  have f13 : fr [(3, 3), (3, 4), (0, 134), (1, 136), (1, 137)] z z3 := fr_t (fr_m (by decide) f1) (fr_t (fr_m (by decide) f2) (fr_m (by decide) f3))
  have j3 := jc_f f3 (by decide) (by decide) (by decide) (by decide) j2
  have g3 := fro_f f3 (by decide) g2
  have s3 : tq_fi z3 134 = tq_fi z3 68 := by rw [fr_fi (k := 134) f3 (by decide), fr_fi (k := 68) f3 (by decide), fr_fi (k := 134) f2 (by decide), fr_fi (k := 68) f2 (by decide)]; exact c1
  have eR : tq_fl z3 136 = tq_fl z3 517 := ct_ext fun i _ => by
    rw [m3, fr_fl f13 (by decide), hp.2.1]
    cases si : S i
    · rfl
    · unfold Rp
      rw [ru i si]
  have eD : tq_fl z3 137 = tq_fl z3 518 := ct_ext fun i _ => by
    rw [n3, fr_fl f13 (by decide), hp.2.2]
    cases si : S i
    · rfl
    · unfold Dp
      rw [ru i si]
  have fin : wc_X11_numberIsSound_91 Q (lN (cv_T w r 0 S)) (lN (rk w r 0 S p)) 1 z3 := by
    unfold wc_X11_numberIsSound_91
    rw [l_1, l_add, pk_lLT (by omega) (by omega)]
    refine ⟨fun u => ?_, fun u => ⟨Or.inr rfl, k z3 f13 (fun _ => g3) (Or.inr s3)⟩⟩
    refine sq_cmake hd j3 g3 u (fun z4 f4 m4 n4 => ⟨rfl, ?_⟩)
    have j4 := jc_f f4 (by decide) (by decide) (by decide) (by decide) j3
    have g4 := fro_f f4 (by decide) g3
    obtain ⟨o1, o2⟩ := ur_ok hd.2.1 (jd_r hd) rfl (jd_bh hd) u
    refine ⟨fun x => absurd x (by decide +kernel), fun _ => sq_crank hd j4 g4 o1 m4 n4 (fun z5 f5 => ⟨_, rfl, ?_⟩)⟩
    rw [o2]
    exact ⟨fun x => absurd rfl x, fun _ => k z5 (fr_t f13 (fr_t (fr_m (by decide) f4) (fr_m (by decide) f5))) (fun _ => fro_f f5 (by decide) g4) (Or.inr (by rw [fr_fi (k := 134) f5 (by decide), fr_fi (k := 68) f5 (by decide), fr_fi (k := 134) f4 (by decide), fr_fi (k := 68) f4 (by decide)]; exact s3))⟩
  exact ⟨fun x => absurd eR x, fun _ => ⟨fun x => absurd eD x, fun _ => fin⟩⟩
end STP
