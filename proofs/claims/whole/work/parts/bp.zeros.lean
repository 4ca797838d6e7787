/-! ===== isSound: the table of pieces is zero where no piece is ===== -/
section HVZ
variable {w h : Nat} {r : Bool} {S : Nat → Bool} {z : tq_S} {Q : tq_O → tq_S → Prop}
def hvz (w h : Nat) (r : Bool) (S : Nat → Bool) (z : tq_S) : Prop := ∀ i, i < 128 → (∀ x y W, x < w → y < h → wpc w r x W → S (8 * y + x) = true → S (ot w x y W) = true → hdx w x y W ≠ i) → tq_al z 7 i = 0
theorem af_pc {x y st way n : Nat} (h0 : way ≠ 0) (e : af w h r S x y st way = some n) : S (8 * y + x) = true ∧ wpc w r x way ∧ S (ot w x y way) = true := by
  unfold af at e
  split at e
  · rw [if_neg (fun u => h0 u.1)] at e; cases e
  split at e
  · first | cases e | (rw [if_neg h0] at e; cases e)
  rename_i hA hB
  have sc : S (8 * y + x) = true := (Classical.byContradiction hB).1
  split at e
  · rename_i w1
    subst w1
    split at e
    · rename_i hC
      exact ⟨sc, Or.inl ⟨rfl, hC.1⟩, hC.2.1⟩
    · cases e
  split at e
  · rename_i w2
    subst w2
    split at e
    · rename_i hC
      exact ⟨sc, Or.inr (Or.inl rfl), hC.2⟩
    · cases e
  split at e
  · rename_i hC
    obtain ⟨c1, c2, c3, c4, _⟩ := hC
    subst c1
    exact ⟨sc, Or.inr (Or.inr ⟨rfl, c3, c2⟩), c4⟩
  · cases e
theorem hT_no {x y i : Nat} {C : Nat → Nat} {M : Nat} (hd : jd w h r S) (hx : x < w) (hy : y < h) (hi : i < 128) (no : ∀ x y W, x < w → y < h → wpc w r x W → S (8 * y + x) = true → S (ot w x y W) = true → hdx w x y W ≠ i) : hT w h r S x y C M i = 0 := by
  unfold hT
  rw [show fb_sm (fun k => if hdx w x y (k % 4) = i then C (k / 4) * vo w r S (x + 1) y (af w h r S x y (k / 4) (k % 4)) else 0) M = fb_sm (fun _ => 0) M from fb_sm_cong (fun k _ => by
    by_cases u : hdx w x y (k % 4) = i
    · rw [if_pos u]
      cases a : af w h r S x y (k / 4) (k % 4) with
      | none => show C (k / 4) * 0 = 0; omega
      | some n =>
        by_cases k0 : k % 4 = 0
        · rw [k0] at u
          have : hdx w x y 0 = 1000 := rfl
          omega
        · obtain ⟨a1, a2, a3⟩ := af_pc k0 a
          exact absurd u (no x y _ hx hy a2 a1 a3)
    · rw [if_neg u])]
  exact fb_sm_0 M
theorem sq_fillHaving2 (hd : jd w h r S) (hj : jc w h r S z) (hc : tq_fi z 134 = tq_fi z 68 → fro w h r S z) (hh : tq_fi z 135 = tq_fi z 68 → hvt w h r S z ∧ hvz w h r S z) (k : ∀ z', fr FH z z' → hvt w h r S z' ∧ hvz w h r S z' → tq_fi z' 135 = tq_fi z' 68 → (tq_fi z' 134 = tq_fi z' 68 → fro w h r S z') → Q (.inl none) z') : wm_X5_fillHaving z Q := by
  have hw8 := hd.2.1
  have hw1 := hd.1
  have hh8 := hd.2.2.2.1
  have hh1 := hd.2.2.1
  obtain ⟨N, hN⟩ : ∃ N : Nat, N = 512 := ⟨_, rfl⟩
  obtain ⟨M, hM2⟩ : ∃ M : Nat, M = 2048 := ⟨_, rfl⟩
  have hM : M = 4 * N := by omega
  unfold wm_X5_fillHaving
  refine ⟨fun h1 => ?_, fun h1 => k z fr_r (hh h1) h1 hc⟩
  refine sq_total hd hj hc (fun z1 f1 g1 c1 => ⟨_, rfl, ?_⟩)
  refine fw_J7_fill_d0a16_r2 ⟨rfl, ?_⟩
  refine fw_J7_fill_d0a16_r3 ⟨rfl, ?_⟩
  intro z5 e5
  have f15 : fr [(3, 7), (3, 5)] z1 z5 := by
    rw [e5]; unfold fl_l
    exact fr_sal (by decide) (fr_sal (by decide) (fr_sal (by decide) fr_r))
  have f5 : fr FH z z5 := fr_t (fr_m (by decide) f1) (fr_m (by decide) f15)
  have a5 : ∀ st, st < 512 → tq_al z5 5 st = lN (hY w h r S M 0 st) := by
    intro st hst
    show _ = lN (if st = 0 then 1 else 0)
    rw [e5, rw_ale, rw_updL, i_0, i_cl (by omega)]
    by_cases q : st = 0
    · rw [if_pos q, if_pos q]; rfl
    · rw [if_neg q, if_neg q]
      unfold fl_l
      rw [rw_ale]
      show (if 0 ≤ st ∧ st < 512 then (0 : Int64) else _) = _
      rw [if_pos ⟨by omega, hst⟩]; rfl
  have a7 : hvp w h r S (8 * 0) z5 := by
    intro x y W hx hy hp _ _
    have hl := hdx_lt hw8 hw1 hh8 hx hy hp
    rw [if_neg (by omega)]
    have e7 : tq_al z5 7 = tq_al (fl_l z1 7 0 128 0) 7 := by
      rw [e5]
      have f' : fr [(3, 5)] (fl_l z1 7 0 128 0) (tq_sal (fl_l (fl_l z1 7 0 128 0) 5 0 512 0) 5 (vp_updL (tq_al (fl_l (fl_l z1 7 0 128 0) 5 0 512 0) 5) (Int32.toNatClampNeg 0) 1)) := by
        refine fr_sal (by decide) ?_
        unfold fl_l
        exact fr_sal (by decide) fr_r
      exact fr_al f' (by decide)
    rw [e7]
    unfold fl_l
    rw [rw_ale]
    show (if 0 ≤ hdx w x y W ∧ hdx w x y W < 128 then (0 : Int64) else _) = _
    rw [if_pos ⟨by omega, hl⟩]
  have b7 : hvz w h r S z5 := by
    intro i hi _
    have e7 : tq_al z5 7 = tq_al (fl_l z1 7 0 128 0) 7 := by
      rw [e5]
      have f' : fr [(3, 5)] (fl_l z1 7 0 128 0) (tq_sal (fl_l (fl_l z1 7 0 128 0) 5 0 512 0) 5 (vp_updL (tq_al (fl_l (fl_l z1 7 0 128 0) 5 0 512 0) 5) (Int32.toNatClampNeg 0) 1)) := by
        refine fr_sal (by decide) ?_
        unfold fl_l
        exact fr_sal (by decide) fr_r
      exact fr_al f' (by decide)
    rw [e7]
    unfold fl_l
    rw [rw_ale]
    show (if 0 ≤ i ∧ i < 128 then (0 : Int64) else _) = _
    rw [if_pos ⟨by omega, hi⟩]
  unfold wc_X5_fillHaving_45
  refine lp_inv (fun y t => ∃ z', t = (nI y, z') ∧ fr FH z z' ∧ fro w h r S z' ∧ (∀ st, st < 512 → tq_al z' 5 st = lN (hY w h r S M y st)) ∧ hvp w h r S (8 * y) z' ∧ hvz w h r S z') h ?_ ⟨z5, rfl, f5, fro_f f15 (by decide) g1, a5, a7, b7⟩
  rintro y t hyh ⟨z6, rfl, f6, g6, a6, v6, w6⟩ B hB
  simp only
  have j6 := jc_f f6 (by decide) (by decide) (by decide) (by decide) hj
  unfold wb_X5_fillHaving_45
  rw [j6.2.1]
  refine ⟨fun h2 => ?_, fun h2 => ?_⟩
  · rw [i_le (by omega) (by omega)] at h2
    have : y = h := by omega
    subst this
    unfold wc_X5_fillHaving_117
    intro z7 e7
    have f67 : fr [(0, 135)] z6 z7 := by rw [e7]; exact fr_sfi (by decide) fr_r
    refine k z7 (fr_t f6 (fr_m (by decide) f67)) ⟨fun x y' W hx hy hp sa sb => ?_, fun i hi no => by rw [fr_al f67 (by decide)]; exact w6 i hi no⟩ (by rw [e7, rw_fie]; rfl) (fun _ => fro_f f67 (by decide) g6)
    rw [fr_al f67 (by decide), v6 x y' W hx hy hp sa sb, if_pos (by omega)]
  · rw [i_le (by omega) (by omega)] at h2
    have hy : y < h := by omega
    refine sq_prep (b := none) hd j6 hy (fun m e => (by cases e)) (g6 (y + 1) (by omega)) (fun z7 f7 g7 => ⟨rfl, ?_⟩)
    unfold wc_X5_fillHaving_64
    refine lp_inv (fun x t => ∃ z', t = (nI x, z') ∧ fr FH z z' ∧ fro w h r S z' ∧ fce w r S none y 0 z' ∧ (∀ st, st < 512 → tq_al z' 5 st = lN (hX w h r S M y (hY w h r S M y) x st)) ∧ hvp w h r S (8 * y + x) z' ∧ hvz w h r S z') w ?_ ⟨z7, rfl, fr_t f6 (fr_m (by decide) f7), fro_f f7 (by decide) g6, g7, fun st hst => by rw [fr_al f7 (by decide)]; exact a6 st hst, fun x' y' W hx hy hp sa sb => by rw [fr_al f7 (by decide)]; exact v6 x' y' W hx hy hp sa sb, fun i hi no => by rw [fr_al f7 (by decide)]; exact w6 i hi no⟩
    rintro x t hxw ⟨z8, rfl, f8, g8, c8, a8, v8, w8⟩ B2 hB2
    simp only
    have j8 := jc_f f8 (by decide) (by decide) (by decide) (by decide) hj
    unfold wb_X5_fillHaving_64
    rw [j8.1]
    refine ⟨fun h3 => ?_, fun h3 => ?_⟩
    · rw [i_le (by omega) (by omega)] at h3
      have : x = w := by omega
      subst this
      unfold wc_X5_fillHaving_111
      intro v e
      rw [i_1, i_add] at e
      subst e
      refine hB hy _ ⟨z8, rfl, f8, g8, fun st hst => by rw [hY_S]; exact a8 st hst, fun x' y' W hx' hy' hp sa sb => ?_, w8⟩
      rw [v8 x' y' W hx' hy' hp sa sb]
      by_cases q : 8 * y' + x' < 8 * y + x
      · rw [if_pos q, if_pos (by omega)]
      · rw [if_neg q, if_neg (by omega)]
    · rw [i_le (by omega) (by omega)] at h3
      have hx : x < w := by omega
      refine fw_J7_fill_d0a16_r4 ⟨rfl, ?_⟩
      have f9 : fr [(3, 6)] z8 (fl_l z8 6 0 512 0) := by unfold fl_l; exact fr_sal (by decide) fr_r
      have j9 := jc_f f9 (by decide) (by decide) (by decide) (by decide) j8
      refine sq_goOn (C := hX w h r S M y (hY w h r S M y) x) hd j9 hx hy (fce_g f9 (by decide) c8) (fun st hst => by rw [fr_al f9 (by decide)]; exact a8 st hst) (fun st u => (supX hd (fun st u => (supY hd y st u).1) x (by omega) st u).1) (fun n hn => ?_) (fun z10 f10 g10 t10 => ⟨rfl, ?_⟩)
      · unfold fl_l
        rw [rw_ale]
        show (if 0 ≤ n ∧ n < 512 then (0 : Int64) else _) = _
        rw [if_pos ⟨by omega, hn⟩]
      · rw [← hM2] at g10 t10
        have f810 : fr [(3, 6), (3, 7)] z8 z10 := fr_t (fr_m (by decide) f9) f10
        show (¬ (0 : Int32) < 0) ∧ _
        rw [i_512, i_cl (by omega), i_0, i_cl (by omega)]
        refine ⟨i_n0 (by omega), i_n0 (by omega), i_n0 (by omega), by omega, by omega, fun z11 e11 v12 e12 => ?_⟩
        rw [i_1, i_add] at e12
        subst e12
        have f11 : fr [(3, 5)] z10 z11 := by rw [e11]; exact fr_sal (by decide) fr_r
        have f811 : fr [(3, 6), (3, 7), (3, 5)] z8 z11 := fr_t (fr_m (by decide) f810) (fr_m (by decide) f11)
        refine hB2 hx _ ⟨z11, rfl, fr_t f8 (fr_m (by decide) f811), fro_f f811 (by decide) g8, fce_g f811 (by decide) c8, fun st hst => ?_, fun x' y' W hx' hy' hp sa sb => ?_, fun i hi no => ?_⟩
        · rw [e11, rw_ale, pk_cpy_in (by omega) (by omega)]
          have e13 : 0 + (st - 0) = st := by omega
          rw [e13, g10 st hst, hX_S]
        · have hl := hdx_lt hw8 hw1 hh8 hx' hy' hp
          have e14 : tq_al (fl_l z8 6 0 512 0) 7 = tq_al z8 7 := fr_al f9 (by decide)
          rw [fr_al f11 (by decide), t10 _ hl, e14, v8 x' y' W hx' hy' hp sa sb]
          by_cases q : 8 * y' + x' = 8 * y + x
          · have q1 : x' = x := by omega
            have q2 : y' = y := by omega
            subst q1
            subst q2
            rw [if_neg (by omega), if_pos (by omega), hT_self hd hN hM hx hy hp sa sb, Int64.zero_add]
          · rw [hT_oth hd hN hM hx hy hx' hy' hp q, ← l_0, Int64.add_zero]
            by_cases q3 : 8 * y' + x' < 8 * y + x
            · rw [if_pos q3, if_pos (by omega)]
            · rw [if_neg q3, if_neg (by omega)]
        · have e14 : tq_al (fl_l z8 6 0 512 0) 7 = tq_al z8 7 := fr_al f9 (by decide)
          rw [fr_al f11 (by decide), t10 _ hi, e14, w8 i hi no, hT_no hd hx hy hi no, ← l_0, Int64.add_zero]
end HVZ
