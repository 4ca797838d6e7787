/-! ===== the reference's boards, on ===== -/
section REFB
variable {w h : Nat} {r : Bool} {S : Nat → Bool} {z : tq_S} {Q : tq_O → tq_S → Prop}
/-- a form of the reference: a cell's place in its form decides what is stored -/
theorem sr_fcell {c : Int32} {n x y : Nat} (hk : fm_k c n) (hx : x < fm_d c n) (hy : y < fm_d c n) {B115 B125 : Int32 → tq_S → Prop} (k : ∀ z', fr [(2, 52)] z z' → (∀ j, tq_ai z' 52 j = if j = 8 * y + x then bi (fm_i c n x y) else tq_ai z 52 j) → B125 (nI (x + 1)) z') : (nI n ≤ nI y → wc_X12_form_151 B115 B125 Q c (nI n) (nI (fm_d c n)) (nI y) (nI x) (nI y - nI n) z) ∧ (¬ nI n ≤ nI y → wc_X12_form_151 B115 B125 Q c (nI n) (nI (fm_d c n)) (nI y) (nI x) ((nI n - (1 : Int32)) - nI y) z) := by
  have hb := fm_b hk
  have st : ∀ b, b = fm_i c n x y → wc_X12_form_280 B115 B125 Q c (nI n) (nI (fm_d c n)) (nI y) (nI x) (bi b) (((8 : Int32) * nI y) + nI x) z := by
    intro b eb
    unfold wc_X12_form_280
    rw [i_8, pk_mul, i_add]
    refine ⟨i_in (by omega) (by omega), fun z1 e1 v e2 => ?_⟩
    rw [i_1, i_add] at e2
    subst e2
    refine k z1 (by rw [e1]; exact fr_sai (by decide) fr_r) (fun j => ?_)
    rw [e1, rw_aie, rw_upd, i_cl (by omega), bi_v, eb]
  have miss : fm_i c n x y = false → wc_X12_form_251 B115 B125 Q c (nI n) (nI (fm_d c n)) (nI y) (nI x) z := by
    intro e
    unfold wc_X12_form_251 wc_X12_form_256
    exact ⟨fun _ => st false e.symm, fun h1 => (by cases h1)⟩
  have pres : fm_i c n x y = true → wc_X12_form_255 B115 B125 Q c (nI n) (nI (fm_d c n)) (nI y) (nI x) z := by
    intro e
    unfold wc_X12_form_255 wc_X12_form_256
    exact ⟨fun h1 => absurd rfl h1, fun _ => st true e.symm⟩
  have d97 : ∀ d : Int32, c = d → d ≠ 97 → ¬ c = 97 := fun d e n e2 => n (e ▸ e2)
  have hd2 : c = 97 → fm_d c n = 2 * n := fun e => if_pos e
  have hd1 : ¬ c = 97 → fm_d c n = n := fun e => if_neg e
  have t223 : (c = 111 → fm_i c n x y = true) → (c = 115 → fm_i c n x y = true) → (c = 97 → fm_i c n x y = true) → wc_X12_form_223 B115 B125 Q c (nI n) (nI (fm_d c n)) (nI y) (nI x) z := by
    intro q1 q2 q3
    unfold wc_X12_form_223
    have other : ¬ c = 99 → fm_i c n x y = true := by
      intro h1
      rcases hk with ⟨e, -⟩ | ⟨e, -⟩ | ⟨e, -⟩ | ⟨e, -⟩
      · exact q3 e
      · exact q2 e
      · exact q1 e
      · exact absurd e h1
    refine ⟨fun h1 => pres (other h1), fun h1 => ?_⟩
    have n97 : ¬ c = 97 := d97 99 h1 (by decide +kernel)
    have e : fm_i c n x y = (!(decide (x = 0) && decide (y = 0)) && !(decide (x + 1 = n) && decide (y + 1 = n))) := by
      unfold fm_i
      rw [if_neg n97, if_neg (by rw [h1]; decide +kernel), if_neg (by rw [h1]; decide +kernel)]
    rw [hd1 n97] at hx hy ⊢
    rw [hd1 n97] at miss pres
    rw [i_add, i_2, pk_mul, pk_sub (by omega), i_0, i_eq (by omega) (by omega), i_eq (by omega) (by omega)]
    refine ⟨fun h2 => miss ?_, fun h2 => ⟨fun h3 => pres ?_, fun h3 => miss ?_⟩⟩
    · rw [e, decide_eq_true (by omega : x = 0), decide_eq_true (by omega : y = 0)]; rfl
    · rw [e]
      have a1 : ¬ (x = 0 ∧ y = 0) := by omega
      have a2 : ¬ (x + 1 = n ∧ y + 1 = n) := by omega
      have b1 : (decide (x = 0) && decide (y = 0)) = false := by
        rw [← Bool.not_eq_true]; simp only [Bool.and_eq_true, decide_eq_true_eq]; exact a1
      have b2 : (decide (x + 1 = n) && decide (y + 1 = n)) = false := by
        rw [← Bool.not_eq_true]; simp only [Bool.and_eq_true, decide_eq_true_eq]; exact a2
      rw [b1, b2]; rfl
    · rw [e, decide_eq_true (by omega : x + 1 = n), decide_eq_true (by omega : y + 1 = n)]; simp
  have t189 : (c = 115 → fm_i c n x y = true) → (c = 97 → fm_i c n x y = true) → wc_X12_form_189 B115 B125 Q c (nI n) (nI (fm_d c n)) (nI y) (nI x) z := by
    intro q2 q3
    unfold wc_X12_form_189
    refine ⟨fun h1 => t223 (fun e => absurd e h1) q2 q3, fun h1 => ?_⟩
    have n97 : ¬ c = 97 := d97 111 h1 (by decide +kernel)
    have e : fm_i c n x y = (decide (x = 0) || decide (y = 0) || decide (x + 1 = n) || decide (y + 1 = n)) := by
      unfold fm_i
      rw [if_neg n97, if_neg (by rw [h1]; decide +kernel), if_pos h1]
    have on : (x = 0 ∨ y = 0 ∨ x + 1 = n ∨ y + 1 = n) → wc_X12_form_223 B115 B125 Q c (nI n) (nI (fm_d c n)) (nI y) (nI x) z := by
      intro h2
      refine t223 (fun _ => ?_) q2 q3
      rw [e]
      simp only [Bool.or_eq_true, decide_eq_true_eq]
      omega
    rw [hd1 n97] at hx hy ⊢
    rw [hd1 n97] at miss on
    rw [i_1, pk_sub (by omega), i_0, i_le (by omega) (by omega), i_le (by omega) (by omega), i_le (by omega) (by omega), i_lt (by omega) (by omega)]
    refine ⟨fun h2 => on (by omega), fun h2 => ⟨fun h3 => on (by omega), fun h3 => ⟨fun h4 => on (by omega), fun h4 => ⟨fun h5 => miss ?_, fun h5 => on (by omega)⟩⟩⟩⟩
    rw [e, decide_eq_false (by omega : ¬ x = 0), decide_eq_false (by omega : ¬ y = 0), decide_eq_false (by omega : ¬ x + 1 = n), decide_eq_false (by omega : ¬ y + 1 = n)]; rfl
  have t176 : (c = 97 → fm_i c n x y = true) → wc_X12_form_176 B115 B125 Q c (nI n) (nI (fm_d c n)) (nI y) (nI x) z := by
    intro q3
    unfold wc_X12_form_176
    refine ⟨fun h1 => t189 (fun e => absurd e h1) q3, fun h1 => ?_⟩
    have n97 : ¬ c = 97 := d97 115 h1 (by decide +kernel)
    have e : fm_i c n x y = decide (x ≤ y) := by
      unfold fm_i
      rw [if_neg n97, if_pos h1]
    rw [i_lt (by omega) (by omega)]
    refine ⟨fun h2 => miss ?_, fun h2 => t189 (fun _ => ?_) q3⟩
    · rw [e, decide_eq_false (by omega : ¬ x ≤ y)]
    · rw [e, decide_eq_true (by omega : x ≤ y)]
  have t151 : ∀ m, m = fm_m n y → wc_X12_form_151 B115 B125 Q c (nI n) (nI (fm_d c n)) (nI y) (nI x) (nI m) z := by
    intro m hm
    unfold wc_X12_form_151
    refine ⟨fun h1 => t176 (fun e => absurd e h1), fun h1 => ?_⟩
    have e : fm_i c n x y = (decide (fm_m n y ≤ x) && decide (x + fm_m n y + 1 ≤ 2 * n)) := by
      unfold fm_i
      rw [if_pos h1]
    have m1 : m < n := by
      rw [hm]; unfold fm_m
      rw [hd2 h1] at hy
      split <;> omega
    have hd := hd2 h1
    rw [hd] at hx hy
    rw [i_lt (by omega) (by omega)]
    refine ⟨fun h2 => miss ?_, fun h2 => ?_⟩
    · rw [e, decide_eq_false (by omega : ¬ fm_m n y ≤ x)]; rfl
    · have e2 : nI (fm_d c n) - nI m = nI (2 * n - m) := by rw [hd, pk_sub (by omega)]
      rw [e2, i_le (by omega) (by omega)]
      refine ⟨fun h3 => miss ?_, fun h3 => t176 (fun _ => ?_)⟩
      · rw [e, decide_eq_false (by omega : ¬ x + fm_m n y + 1 ≤ 2 * n)]; simp
      · rw [e, decide_eq_true (by omega : fm_m n y ≤ x), decide_eq_true (by omega : x + fm_m n y + 1 ≤ 2 * n)]; rfl
  refine ⟨fun h1 => ?_, fun h1 => ?_⟩
  · rw [i_le (by omega) (by omega)] at h1
    rw [pk_sub h1]
    exact t151 _ (if_neg (by omega)).symm
  · rw [i_le (by omega) (by omega)] at h1
    rw [i_1, pk_sub (by omega), pk_sub (by omega)]
    exact t151 _ (if_pos (by omega)).symm
theorem sr_formgo {c : Int32} {n : Nat} (hk : fm_k c n) (k : ∀ z', nr (fm_d c n) (fm_d c n) false (fm_S c n) z z' → Q (.inl (some (.int (nI (fb_ct (fm_S c n) 64))))) z') (ht : tq_fi z 3264 = 0) : wc_X12_form_101 Q c (nI n) (nI (fm_d c n)) z := by
  have hb := fm_b hk
  unfold wc_X12_form_101
  refine sq_rectangle hb.2.2.2 hb.2.2.2 (fun z1 f1 j1 t1 a1 a2 a3 => ⟨rfl, ?_⟩)
  unfold wc_X12_form_115
  refine lp_inv (fun y s => ∃ z', s = (nI y, z') ∧ fr [(2, 52)] z1 z' ∧ ∀ j, j < 64 → tq_ai z' 52 j = if j / 8 < y then bi (fm_S c n j) else bi (re_S (fm_d c n) (fm_d c n) j)) (fm_d c n) ?_ ⟨z1, rfl, fr_r, fun j hj => by rw [if_neg (by omega)]; exact j1.2 j hj⟩
  rintro y s hy ⟨z2, rfl, f2, e2⟩ B hB
  simp only
  unfold wb_X12_form_115
  refine ⟨fun h1 => ?_, fun h1 => ?_⟩
  · rw [i_le (by omega) (by omega)] at h1
    unfold wc_X12_form_293
    have j2 : jr (fm_d c n) (fm_d c n) false (fm_S c n) z2 := by
      refine ⟨cr_bf f2 (by decide) (by decide) (by decide) j1.1, fun j hj => ?_⟩
      rw [e2 j hj]
      split
      · rfl
      · have u : re_S (fm_d c n) (fm_d c n) j = false := by unfold re_S; rw [decide_eq_false (by omega : ¬ j / 8 < fm_d c n)]; simp
        have v : fm_S c n j = false := by unfold fm_S; rw [decide_eq_false (by omega : ¬ j / 8 < fm_d c n)]; simp
        rw [u, v]
    refine sq_many j2 ⟨_, rfl, k z2 ⟨fr_t f1 (fr_m (by decide) f2), j2, ?_, ?_, ?_, ?_⟩⟩
    · exact (fr_fi f2 (by decide)).trans (t1.trans ht)
    · exact (fr_fi f2 (by decide)).trans a1
    · exact (fr_fi f2 (by decide)).trans a2
    · exact (fr_fi f2 (by decide)).trans a3
  · rw [i_le (by omega) (by omega)] at h1
    unfold wc_X12_form_125
    refine lp_inv (fun x s => ∃ z', s = (nI x, z') ∧ fr [(2, 52)] z1 z' ∧ ∀ j, j < 64 → tq_ai z' 52 j = if j / 8 < y ∨ (j / 8 = y ∧ j % 8 < x) then bi (fm_S c n j) else bi (re_S (fm_d c n) (fm_d c n) j)) (fm_d c n) ?_ ⟨z2, rfl, f2, fun j hj => by
      rw [e2 j hj]
      by_cases a : j / 8 < y
      · rw [if_pos a, if_pos (Or.inl a)]
      · rw [if_neg a, if_neg (by omega)]⟩
    rintro x s hx ⟨z3, rfl, f3, e3⟩ B' hB'
    simp only
    unfold wb_X12_form_125
    refine ⟨fun h2 => ?_, fun h2 => ?_⟩
    · rw [i_le (by omega) (by omega)] at h2
      unfold wc_X12_form_287
      intro v ev
      rw [i_1, i_add] at ev
      subst ev
      refine hB (by omega) _ ⟨z3, rfl, f3, fun j hj => ?_⟩
      rw [e3 j hj]
      by_cases a : j / 8 < y
      · rw [if_pos (Or.inl a), if_pos (by omega)]
      · by_cases b : j / 8 = y
        · by_cases d : j % 8 < x
          · rw [if_pos (Or.inr ⟨b, d⟩), if_pos (by omega)]
          · rw [if_neg (by omega), if_pos (by omega)]
            have u : re_S (fm_d c n) (fm_d c n) j = false := by unfold re_S; rw [decide_eq_false (by omega : ¬ j % 8 < fm_d c n)]; rfl
            have v : fm_S c n j = false := by unfold fm_S; rw [decide_eq_false (by omega : ¬ j % 8 < fm_d c n)]; rfl
            rw [u, v]
        · rw [if_neg (by omega), if_neg (by omega)]
    · rw [i_le (by omega) (by omega)] at h2
      refine sr_fcell hk (by omega) (by omega) (fun z4 f4 e4 => ?_)
      refine hB' (by omega) _ ⟨z4, rfl, fr_t f3 f4, fun j hj => ?_⟩
      rw [e4 j]
      by_cases a : j = 8 * y + x
      · have b1 : j / 8 = y := by omega
        have b2 : j % 8 = x := by omega
        have b3 : fm_S c n j = fm_i c n x y := by
          unfold fm_S; rw [b1, b2, decide_eq_true (by omega : x < fm_d c n), decide_eq_true (by omega : y < fm_d c n)]; rfl
        rw [if_pos a, if_pos (by omega), b3]
      · rw [if_neg a, e3 j hj]
        by_cases b : j / 8 < y ∨ (j / 8 = y ∧ j % 8 < x)
        · rw [if_pos b, if_pos (by omega)]
        · rw [if_neg b, if_neg (by omega)]
theorem sr_form {c a : Int32} (k0 : fm_v c a = false → ∀ z', fr [(0, 3264)] z z' → tq_fi z' 3264 = 1 → Q (.inl (some (.int 0))) z') (k1 : ∀ n, a = nI n → fm_k c n → ∀ z', nr (fm_d c n) (fm_d c n) false (fm_S c n) z z' → Q (.inl (some (.int (nI (fb_ct (fm_S c n) 64))))) z') : wm_X12_form c a z Q := by
  have c1 : (115 : Int32) ≠ 97 := by decide +kernel
  have c2 : (111 : Int32) ≠ 97 := by decide +kernel
  have c3 : (99 : Int32) ≠ 97 := by decide +kernel
  have c4 : (111 : Int32) ≠ 115 := by decide +kernel
  have c5 : (99 : Int32) ≠ 115 := by decide +kernel
  have c6 : (99 : Int32) ≠ 111 := by decide +kernel
  have good : fm_v c a = true → wc_X12_form_63 Q c a z := by
    intro hv
    obtain ⟨n, rfl, hk⟩ := fm_vk hv
    unfold wc_X12_form_63 wc_X12_form_68
    refine ⟨fun _ => ?_, fun h1 => (by cases h1)⟩
    unfold wc_X12_form_79
    refine sq_isThrown (b := false) (a := 1) (fun z1 f1 e1 => ⟨_, rfl, fun _ => ?_, fun h3 => absurd rfl h3⟩)
    have main := sr_formgo (z := z1) (Q := Q) hk (fun z2 n2 => k1 n rfl hk z2 ⟨fr_t (fr_m (by decide) f1) n2.1, n2.2⟩) e1
    refine ⟨fun h2 => ?_, fun h2 => ?_⟩
    · have e : fm_d c n = n := if_neg h2
      rw [e] at main; exact main
    · have e : fm_d c n = 2 * n := if_pos h2
      rw [e, ← pk_mul, ← i_2] at main; exact main
  have bad : fm_v c a = false → wc_X12_form_67 Q c a z := by
    intro hv
    unfold wc_X12_form_67 wc_X12_form_68
    refine ⟨fun h1 => absurd rfl h1, fun _ => ?_⟩
    unfold wc_X12_form_79
    exact sq_isThrown (b := true) (a := 1) (fun z1 f1 e1 => ⟨_, rfl, fun h1 => (by cases h1), fun _ => k0 hv z1 f1 e1⟩)
  unfold fm_v at good bad
  have t47 : ¬ c = 97 → ¬ c = 115 → ¬ c = 111 → wc_X12_form_47 Q c a z := by
    intro h1 h2 h3
    rw [if_neg h1, if_neg h2, if_neg h3] at good bad
    unfold wc_X12_form_47
    refine ⟨fun h4 => bad (if_neg h4), fun h4 => ?_⟩
    rw [if_pos h4] at good bad
    refine sq_isIn ⟨_, rfl, fun h5 => ?_, fun h5 => ?_⟩
    · exact bad (bi_0.mp h5)
    · exact good (bi_n.mp h5)
  have f111 : c = 111 → fi 3 8 a = false → wc_X12_form_47 Q c a z := by
    intro e h1
    rw [if_neg (by rw [e]; exact c2), if_neg (by rw [e]; exact c4), if_pos e] at bad
    unfold wc_X12_form_47
    exact ⟨fun _ => bad h1, fun h4 => absurd (e ▸ h4) c6.symm⟩
  have f115 : c = 115 → fi 1 8 a = false → wc_X12_form_31 Q c a z := by
    intro e h1
    rw [if_neg (by rw [e]; exact c1), if_pos e] at bad
    unfold wc_X12_form_31
    refine ⟨fun _ => ?_, fun h4 => absurd (e ▸ h4) c4.symm⟩
    unfold wc_X12_form_47
    exact ⟨fun _ => bad h1, fun h4 => absurd (e ▸ h4) c5.symm⟩
  have f97 : c = 97 → fi 1 4 a = false → wc_X12_form_15 Q c a z := by
    intro e h1
    rw [if_pos e] at bad
    unfold wc_X12_form_15
    refine ⟨fun _ => ?_, fun h4 => absurd (e ▸ h4) c1.symm⟩
    unfold wc_X12_form_31
    refine ⟨fun _ => ?_, fun h4 => absurd (e ▸ h4) c2.symm⟩
    unfold wc_X12_form_47
    exact ⟨fun _ => bad h1, fun h4 => absurd (e ▸ h4) c3.symm⟩
  unfold wm_X12_form
  refine ⟨fun h1 => ?_, fun h1 => ?_⟩
  · unfold wc_X12_form_15
    refine ⟨fun h2 => ?_, fun h2 => ?_⟩
    · unfold wc_X12_form_31
      refine ⟨fun h3 => t47 h1 h2 h3, fun h3 => ?_⟩
      refine sq_isIn ⟨_, rfl, fun h5 => ?_, fun h5 => ?_⟩
      · rw [if_neg h1, if_neg h2, if_pos h3] at good
        exact good (bi_n.mp h5)
      · exact f111 h3 (bi_0.mp h5)
    · refine sq_isIn ⟨_, rfl, fun h5 => ?_, fun h5 => ?_⟩
      · rw [if_neg h1, if_pos h2] at good
        exact good (bi_n.mp h5)
      · exact f115 h2 (bi_0.mp h5)
  · refine sq_isIn ⟨_, rfl, fun h5 => ?_, fun h5 => ?_⟩
    · rw [if_pos h1] at good
      exact good (bi_n.mp h5)
    · exact f97 h1 (bi_0.mp h5)
/-- one cell stored -/
theorem sr_put {a b : Nat} {v : Bool} (hw : a < w) (hh : b < h) (bw : w ≤ 8) (bh : h ≤ 8) (hj : jr w h r S z) (hv : v = !S (8 * b + a)) (ht : tq_fi z 3264 = 0) (k : ∀ z', nr w h r (fl_S S (8 * b + a)) z z' → Q (.inl (some (.int (nI (fb_ct (fl_S S (8 * b + a)) 64))))) z') : vp_in (((8 : Int32) * nI b) + nI a) 64 ∧ ∀ z103 : tq_S, z103 = tq_sai z 52 (upd (tq_ai z 52) (Int32.toNatClampNeg (((8 : Int32) * nI b) + nI a)) (vp_nar .boolean (bi v))) → wm_X12_anew z103 (tq_wv fun z104 => wm_X12_many z104 (tq_wi fun r106 z105 => Q (.inl (some (.int r106))) z105)) := by
  rw [i_8, pk_mul, i_add]
  refine ⟨i_in (by omega) (by omega), fun z1 e1 => ?_⟩
  rw [i_cl (by omega), bi_v] at e1
  refine sq_anew (fun z2 f2 a1 a2 a3 => ⟨rfl, ?_⟩)
  have f1 : fr [(2, 52)] z z1 := by rw [e1]; exact fr_sai (by decide) fr_r
  have j2 : jr w h r (fl_S S (8 * b + a)) z2 := by
    refine ⟨cr_bf f2 (by decide) (by decide) (by decide) (cr_bf f1 (by decide) (by decide) (by decide) hj.1), fun j hl => ?_⟩
    rw [fr_ai f2 (by decide), e1, rw_aie, rw_upd]
    unfold fl_S
    by_cases e : j = 8 * b + a
    · rw [if_pos e, if_pos e, hv, e]
    · rw [if_neg e, if_neg e]; exact hj.2 j hl
  refine sq_many j2 ⟨_, rfl, k z2 ⟨fr_t (fr_m (by decide) f1) (fr_m (by decide) f2), j2, ?_, a1, a2, a3⟩⟩
  exact (fr_fi f2 (by decide)).trans ((fr_fi f1 (by decide)).trans ht)
theorem sr_cut {x y : Int32} (hd : jd w h r S) (hj : jr w h r S z) (k0 : ho w h S x y = false → ∀ z', fr [(0, 3264)] z z' → tq_fi z' 3264 = 1 → Q (.inl (some (.int 0))) z') (k1 : ∀ a b, x = nI a → y = nI b → a < w → b < h → S (8 * b + a) = true → ∀ z', nr w h r (fl_S S (8 * b + a)) z z' → Q (.inl (some (.int (nI (fb_ct (fl_S S (8 * b + a)) 64))))) z') : wm_X12_cut x y z Q := by
  unfold wm_X12_cut
  refine sq_isCell hd.1 hd.2.1 hd.2.2.1 hd.2.2.2.1 hj ⟨_, rfl, fun h1 => ?_, fun h1 => ?_⟩
  · rw [bi_n] at h1
    obtain ⟨a, b, rfl, rfl, ha, hb, hs⟩ := ho_t hd.2.1 hd.2.2.2.1 h1
    unfold wc_X12_cut_15
    refine sq_isThrown (b := false) (a := 1) (fun z1 f1 e1 => ⟨_, rfl, fun _ => ?_, fun h3 => absurd rfl h3⟩)
    have j1 := jr_f f1 (by decide) (by decide) (by decide) (by decide) hj
    exact sr_put (v := false) ha hb hd.2.1 hd.2.2.2.1 j1 (by rw [hs]; rfl) e1 (fun z2 n2 => k1 a b rfl rfl ha hb hs z2 ⟨fr_t (fr_m (by decide) f1) n2.1, n2.2⟩)
  · rw [bi_0] at h1
    unfold wc_X12_cut_15
    exact sq_isThrown (b := true) (a := 1) (fun z1 f1 e1 => ⟨_, rfl, fun h2 => (by cases h2), fun _ => k0 h1 z1 f1 e1⟩)
theorem fi_wi {x : Int32} (hw : 1 ≤ w) (bw : w ≤ 8) : fi (0 : Int32).toInt (nI w - (1 : Int32)).toInt x = (decide (0 ≤ x.toInt) && decide (x.toInt < (w : Int))) := by
  unfold fi
  rw [i_1, pk_sub hw, i_ti (by omega), i_z]
  congr 1
  exact decide_eq_decide.mpr (by omega)
theorem sr_fill {x y : Int32} (hd : jd w h r S) (hj : jr w h r S z) (k0 : (wi w h x y && !ho w h S x y) = false → ∀ z', fr [(0, 3264)] z z' → tq_fi z' 3264 = 1 → Q (.inl (some (.int 0))) z') (k1 : ∀ a b, x = nI a → y = nI b → a < w → b < h → S (8 * b + a) = false → ∀ z', nr w h r (fl_S S (8 * b + a)) z z' → Q (.inl (some (.int (nI (fb_ct (fl_S S (8 * b + a)) 64))))) z') : wm_X12_fill x y z Q := by
  have hw8 := hd.2.1
  have hh8 := hd.2.2.2.1
  have bad : (wi w h x y && !ho w h S x y) = false → wc_X12_fill_43 Q x y (bi true) z := by
    intro h1
    unfold wc_X12_fill_43
    exact sq_isThrown (b := true) (a := 1) (fun z1 f1 e1 => ⟨_, rfl, fun h2 => (by cases h2), fun _ => k0 h1 z1 f1 e1⟩)
  have wid : wi w h x y = (decide (0 ≤ x.toInt) && decide (x.toInt < (w : Int)) && (decide (0 ≤ y.toInt) && decide (y.toInt < (h : Int)))) := by
    unfold wi ho; rw [Bool.and_true, Bool.and_assoc]
  unfold wm_X12_fill
  rw [hj.1.1]
  refine sq_isIn ⟨_, rfl, fun h1 => ?_, fun h1 => ?_⟩
  · rw [bi_0, fi_wi hd.1 hw8] at h1
    unfold wc_X12_fill_38
    exact bad (by rw [wid, h1]; rfl)
  · rw [bi_n, fi_wi hd.1 hw8] at h1
    rw [hj.1.2.1]
    refine sq_isIn ⟨_, rfl, fun h2 => ?_, fun h2 => ?_⟩
    · rw [bi_0, fi_wi hd.2.2.1 hh8] at h2
      unfold wc_X12_fill_38
      exact bad (by rw [wid, h2]; simp)
    · rw [bi_n, fi_wi hd.2.2.1 hh8] at h2
      have hwi : wi w h x y = true := by rw [wid, h1, h2]; rfl
      obtain ⟨a, b, rfl, rfl, ha, hb⟩ := wi_t hw8 hh8 hwi
      refine sq_isCell hd.1 hd.2.1 hd.2.2.1 hd.2.2.2.1 hj ⟨_, rfl, fun h3 => ?_, fun h3 => ?_⟩
      · rw [bi_0, ho_n (by omega) (by omega), decide_eq_true ha, decide_eq_true hb] at h3
        unfold wc_X12_fill_43
        refine sq_isThrown (b := false) (a := 1) (fun z1 f1 e1 => ⟨_, rfl, fun _ => ?_, fun h4 => absurd rfl h4⟩)
        have j1 := jr_f f1 (by decide) (by decide) (by decide) (by decide) hj
        have hs : S (8 * b + a) = false := h3
        exact sr_put (v := true) ha hb hd.2.1 hd.2.2.2.1 j1 (by rw [hs]; rfl) e1 (fun z2 n2 => k1 a b rfl rfl ha hb hs z2 ⟨fr_t (fr_m (by decide) f1) n2.1, n2.2⟩)
      · rw [bi_n] at h3
        unfold wc_X12_fill_38
        exact bad (by rw [h3]; simp)
theorem sr_roll {b : Bool} {x : Int32} (hx : (x = 0 → b = false) ∧ (¬ x = 0 → b = true ∧ x = 1)) (hd : jd w h r S) (hj : jr w h r S z) (k0 : b = true → ¬ (w % 2 = 0 ∧ 4 ≤ w) → ∀ z', fr [(0, 3264)] z z' → tq_fi z' 3264 = 1 → Q (.inl (some (.int 0))) z') (k1 : (b = true → w % 2 = 0 ∧ 4 ≤ w) → ∀ z', nr w h b S z z' → Q (.inl (some (.int (bi r)))) z') : wm_X12_roll x z Q := by
  have hb := hd.2.1
  have xb : x = bi b := by
    by_cases h0 : x = 0
    · rw [hx.1 h0, h0]; rfl
    · rw [(hx.2 h0).1, (hx.2 h0).2]; rfl
  have bad : b = true → ¬ (w % 2 = 0 ∧ 4 ≤ w) → wc_X12_roll_28 Q x (bi true) z := by
    intro h1 h2
    unfold wc_X12_roll_28
    exact sq_isThrown (b := true) (a := 1) (fun z1 f1 e1 => ⟨_, rfl, fun h3 => (by cases h3), fun _ => k0 h1 h2 z1 f1 e1⟩)
  have good : (b = true → w % 2 = 0 ∧ 4 ≤ w) → wc_X12_roll_28 Q x (bi false) z := by
    intro hr
    unfold wc_X12_roll_28
    refine sq_isThrown (b := false) (a := 1) (fun z1 f1 e1 => ⟨_, rfl, fun _ => ?_, fun h3 => absurd rfl h3⟩)
    intro v ev
    refine ⟨by rw [xb]; exact bi_z, fun z2 e2 => ?_⟩
    have j1 := jr_f f1 (by decide) (by decide) (by decide) (by decide) hj
    refine sq_anew (fun z3 f3 a1 a2 a3 => ⟨rfl, ?_, ?_⟩)
    · rw [ev, j1.1.2.2]; exact bi_z (b := r)
    · rw [ev, j1.1.2.2]
      have f2 : fr [(0, 3267)] z1 z2 := by rw [e2]; exact fr_sfi (by decide) fr_r
      refine k1 hr z3 ⟨fr_t (fr_m (by decide) f1) (fr_t (fr_m (by decide) f2) (fr_m (by decide) f3)), ⟨⟨?_, ?_, ?_⟩, fun j hl => ?_⟩, ?_, a1, a2, a3⟩
      · exact (fr_fi f3 (by decide)).trans ((fr_fi f2 (by decide)).trans j1.1.1)
      · exact (fr_fi f3 (by decide)).trans ((fr_fi f2 (by decide)).trans j1.1.2.1)
      · rw [fr_fi f3 (by decide), e2, rw_fie, xb]; rfl
      · rw [fr_ai f3 (by decide), fr_ai f2 (by decide)]; exact j1.2 j hl
      · exact (fr_fi f3 (by decide)).trans ((fr_fi f2 (by decide)).trans e1)
  unfold wm_X12_roll
  refine ⟨fun h1 => ?_, fun h1 => ?_⟩
  · unfold wc_X12_roll_27
    exact good (fun h2 => by rw [hx.1 h1] at h2; cases h2)
  · rw [hj.1.1, i_2, pk_rem (by omega) (by omega) (by omega), i_1, i_eq (by omega) (by omega), i_4, i_le (by omega) (by omega)]
    unfold wc_X12_roll_23 wc_X12_roll_27
    exact ⟨fun h2 => bad (hx.2 h1).1 (by omega), fun h2 => ⟨fun h3 => good (fun _ => by omega), fun h3 => bad (hx.2 h1).1 (by omega)⟩⟩
end REFB
