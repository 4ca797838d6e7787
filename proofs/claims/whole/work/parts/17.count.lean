/-! ===== the reference counts covers ===== -/
theorem sp_isLeft {w h x y : Nat} {z : tq_S} {Q : tq_O → tq_S → Prop} (hw : tq_fi z 3265 = nI w) (hh : tq_fi z 3266 = nI h) (bw : w ≤ 8) (bh : h ≤ 8) (hx : x < 100) (hy : y < 100) (k : Q (.inl (some (.int (if x < w ∧ y < h ∧ cs_ix (tq_ai z 53) (8 * y + x) = true then 1 else 0)))) z) : wm_X12_isLeft (nI x) (nI y) z Q := by
  unfold wm_X12_isLeft
  rw [hw, hh]
  refine ⟨fun h1 => ?_, fun h1 => ⟨fun h2 => ?_, fun h2 => ?_⟩⟩
  · rw [i_le (by omega) (by omega)] at h1
    rw [if_neg (by omega)] at k; exact k
  · rw [i_le (by omega) (by omega)] at h2
    rw [if_neg (by omega)] at k; exact k
  · rw [i_le (by omega) (by omega)] at h1 h2
    rw [i_8, pk_mul, i_add]
    refine ⟨i_in (by omega) (by omega), fun h3 => ?_, fun h3 => ?_⟩
    · rw [i_cl (by omega), ← cs_f (by omega)] at h3
      rw [if_neg (by rw [h3]; simp)] at k; exact k
    · rw [i_cl (by omega), ← cs_t (by omega)] at h3
      rw [if_pos ⟨by omega, by omega, h3⟩] at k; exact k
theorem sp_fillRow {w h y : Nat} {A : Nat → Int32} (bw : w ≤ 8) (bh : h ≤ 8) (hy : y < h) (hS : cv_re w h (cs_ix A)) : ∀ n x fl dn c z Q, w < n + x → x ≤ w → dn < 2 ^ x → fl < 2147483648 → tq_fi z 3265 = nI w → tq_fi z 3266 = nI h → tq_ai z 53 = A → (∀ z', fr [(3, 55)] z z' → (∀ d, d < 256 → tq_al z' 55 d = tq_al z 55 d + lN (c * cv_f w y (cs_ix A) n x fl dn d)) → Q (.inl none) z') → wm_X12_fillRow n (nI y) (nI x) (nI fl) (nI dn) (lN c) z Q := by
  intro n
  induction n with
  | zero => intro x fl dn c z Q h1 h2; omega
  | succ n ih =>
    intro x fl dn c z Q h1 h2 h3 h4 hw hh hA k
    have hx8 : 2 ^ x ≤ 256 := by
      have : (2 : Nat) ^ x ≤ 2 ^ 8 := Nat.pow_le_pow_right (by omega) (by omega)
      omega
    show we_X12_fillRow (wm_X12_fillRow n) (nI y) (nI x) (nI fl) (nI dn) (lN c) z Q
    unfold we_X12_fillRow
    rw [hw]
    refine ⟨fun h5 => ?_, fun h5 => ?_⟩
    · have hxw : x ≠ w := fun e => h5 (by rw [e])
      have skip : ∀ z1 : tq_S, z1 = z → (cs_ix A (8 * y + x) = false ∨ fl.testBit x = true) → wc_X12_fillRow_39 (wm_X12_fillRow n) Q (nI y) (nI x) (nI fl) (nI dn) (lN c) z1 := by
        intro z1 hz1 hf
        subst hz1
        unfold wc_X12_fillRow_39
        rw [i_1, i_add]
        refine ih (x + 1) fl dn c z1 _ (by omega) (by omega) (by rw [Nat.pow_succ]; omega) h4 hw hh hA (fun z2 f2 e2 => ⟨rfl, k z2 f2 (fun d hd => ?_)⟩)
        rw [e2 d hd]
        simp only [cv_f, if_neg hxw, if_pos hf]
      refine sp_isLeft hw hh bw bh (by omega) (by omega) ⟨_, rfl, fun h6 => ?_, fun h6 => ⟨fun h7 => ?_, fun h7 => ?_⟩⟩
      · refine skip z rfl (Or.inl ?_)
        cases hc : cs_ix A (8 * y + x)
        · rfl
        · rw [hA, if_pos ⟨by omega, by omega, hc⟩] at h6
          cases h6
      · have hf1 : cs_ix A (8 * y + x) = true := by
          cases hc : cs_ix A (8 * y + x)
          · rw [hA, if_neg (by rw [hc]; simp)] at h6
            exact (h6 rfl).elim
          · rfl
        have hf2 : fl.testBit x = false := by
          cases hc : fl.testBit x
          · rfl
          · rw [i_tb h4 (by omega), hc, if_pos rfl] at h7
            exact (h7 rfl).elim
        have hf : ¬ (cs_ix A (8 * y + x) = false ∨ fl.testBit x = true) := by rw [hf1, hf2]; simp
        rw [i_1, i_2, i_add, i_add]
        -- the way down, behind the way to the right
        have down : ∀ z1 (B : Nat → Nat), fr [(3, 55)] z z1 → (∀ d, d < 256 → tq_al z1 55 d = tq_al z 55 d + lN (c * B d)) → (∀ d, B d = if x + 1 < w ∧ cs_ix A (8 * y + (x + 1)) = true ∧ fl.testBit (x + 1) = false then cv_f w y (cs_ix A) n (x + 2) fl dn d else 0) → wc_X12_fillRow_87 (wm_X12_fillRow n) Q (nI y) (nI x) (nI fl) (nI dn) (lN c) z1 := by
          intro z1 B f1 e1 eB
          unfold wc_X12_fillRow_87
          have hw1 : tq_fi z1 3265 = nI w := (fr_fi f1 (by decide)).trans hw
          have hh1 : tq_fi z1 3266 = nI h := (fr_fi f1 (by decide)).trans hh
          have hA1 : tq_ai z1 53 = A := (fr_ai f1 (by decide)).trans hA
          rw [i_1, i_add]
          refine sp_isLeft hw1 hh1 bw bh (by omega) (by omega) ⟨_, rfl, fun h8 => ?_, fun h8 => ?_⟩
          · refine k z1 f1 (fun d hd => ?_)
            rw [e1 d hd]
            have h9 : ¬ cs_ix A (8 * (y + 1) + x) = true := by
              intro hc
              have := hS _ hc
              rw [hA1, if_pos ⟨by omega, by omega, hc⟩] at h8
              cases h8
            simp only [cv_f, if_neg hxw, if_neg hf, if_neg h9, eB, Nat.add_zero]
          · have h9 : cs_ix A (8 * (y + 1) + x) = true := by
              cases hc : cs_ix A (8 * (y + 1) + x)
              · rw [hA1, if_neg (by rw [hc]; simp)] at h8
                exact (h8 rfl).elim
              · rfl
            rw [← i_1, i_pw (by omega), i_or, i_1, i_add]
            refine ih (x + 1) fl (dn ||| 2 ^ x) c z1 _ (by omega) (by omega) (cv_lt h3) h4 hw1 hh1 hA1 (fun z2 f2 e2 => ⟨rfl, k z2 (fr_t f1 f2) (fun d hd => ?_)⟩)
            rw [e2 d hd, e1 d hd, Int64.add_assoc, l_add, ← Nat.mul_add]
            simp only [cv_f, if_neg hxw, if_neg hf, if_pos h9, eB]
        refine sp_isLeft hw hh bw bh (by omega) (by omega) ⟨_, rfl, fun h8 => ?_, fun h8 => ⟨fun h9 => ?_, fun h9 => ?_⟩⟩
        · have h9 : ¬ (x + 1 < w ∧ cs_ix A (8 * y + (x + 1)) = true ∧ fl.testBit (x + 1) = false) := by
            intro hc
            rw [hA, if_pos ⟨hc.1, by omega, hc.2.1⟩] at h8
            cases h8
          refine down z (fun _ => 0) fr_r (fun d _ => ?_) (fun d => by rw [if_neg h9])
          rw [Nat.mul_zero]; exact (Int64.add_zero _).symm
        · have h10 : ¬ (x + 1 < w ∧ cs_ix A (8 * y + (x + 1)) = true ∧ fl.testBit (x + 1) = false) := by
            intro hc
            rw [← i_1, i_tb h4 (by omega), hc.2.2] at h9
            exact h9 rfl
          refine down z (fun _ => 0) fr_r (fun d _ => ?_) (fun d => by rw [if_neg h10])
          rw [Nat.mul_zero]; exact (Int64.add_zero _).symm
        · have h10 : x + 1 < w ∧ cs_ix A (8 * y + (x + 1)) = true ∧ fl.testBit (x + 1) = false := by
            have c1 : x + 1 < w ∧ y < h ∧ cs_ix (tq_ai z 53) (8 * y + (x + 1)) = true := by
              refine Classical.byContradiction fun hc => ?_
              rw [if_neg hc] at h8
              exact h8 rfl
            refine ⟨c1.1, by rw [← hA]; exact c1.2.2, ?_⟩
            cases hc : fl.testBit (x + 1)
            · rfl
            · rw [← i_1, i_tb h4 (by omega), hc, if_pos rfl] at h9
              cases h9
          exact ih (x + 2) fl dn c z _ (by omega) (by omega) (by rw [Nat.pow_succ, Nat.pow_succ]; omega) h4 hw hh hA (fun z2 f2 e2 => ⟨rfl, down z2 (fun d => cv_f w y (cs_ix A) n (x + 2) fl dn d) f2 e2 (fun d => by rw [if_pos h10])⟩)
      · refine skip z rfl (Or.inr ?_)
        cases hc : fl.testBit x
        · rw [i_tb h4 (by omega), hc] at h7
          cases h7
        · rfl
    · have hxw : x = w := by
        rw [i_eq (by omega) (by omega)] at h5; exact h5
      refine ⟨i_in (by omega) (by omega), i_in (by omega) (by omega), fun z6 e6 => ?_⟩
      subst e6
      refine k _ (fr_sal (by decide) fr_r) (fun d hd => ?_)
      rw [rw_ale, rw_updL, i_cl (by omega)]
      by_cases hd2 : d = dn
      · simp only [cv_f, if_pos hxw, if_pos hd2, Nat.mul_one]
        rw [hd2]
      · simp only [cv_f, if_pos hxw, if_neg hd2, Nat.mul_zero]
        exact (Int64.add_zero _).symm
theorem l_le0 {a : Nat} (h : a < 9223372036854775808) : lN a ≤ (0 : Int64) ↔ a = 0 := by
  have : (0 : Int64) = lN 0 := rfl
  rw [this, pk_lLE h (by omega)]; omega
theorem i_tb0 {a b : Nat} (ha : a < 2147483648) (hb : b < 2147483648) : (nI a &&& nI b) = 0 ↔ a &&& b = 0 := by
  have h1 : a &&& b ≤ a := Nat.and_le_left
  rw [i_and, show (0 : Int32) = nI 0 from rfl, i_eq (by omega) (by omega)]
theorem cv_ends {w m : Nat} : (m &&& (1 ||| 2 ^ (w - 1))) = 0 ↔ (m.testBit 0 = false ∧ m.testBit (w - 1) = false) := by
  constructor
  · intro h
    have h2 : ∀ j, (m &&& (1 ||| 2 ^ (w - 1))).testBit j = false := fun j => by rw [h]; exact Nat.zero_testBit j
    have e0 : ∀ j, (1 ||| 2 ^ (w - 1) : Nat).testBit j = (decide (j = 0) || decide (j = w - 1)) := by
      intro j
      have : (1 : Nat) = 2 ^ 0 := rfl
      rw [Nat.testBit_or, this, Nat.testBit_two_pow, Nat.testBit_two_pow]
      congr 1
      · exact decide_eq_decide.mpr ⟨fun e => e.symm, fun e => e.symm⟩
      · exact decide_eq_decide.mpr ⟨fun e => e.symm, fun e => e.symm⟩
    have a1 := h2 0
    have a2 := h2 (w - 1)
    rw [Nat.testBit_and, e0] at a1 a2
    rw [decide_eq_true (rfl : (0 : Nat) = 0), Bool.true_or, Bool.and_true] at a1
    rw [decide_eq_true (rfl : w - 1 = w - 1), Bool.or_true, Bool.and_true] at a2
    exact ⟨a1, a2⟩
  · rintro ⟨h1, h2⟩
    refine Nat.eq_of_testBit_eq (fun j => ?_)
    rw [Nat.testBit_and, Nat.testBit_or, Nat.zero_testBit]
    have : (1 : Nat) = 2 ^ 0 := rfl
    rw [this, Nat.testBit_two_pow, Nat.testBit_two_pow]
    by_cases c1 : 0 = j
    · subst c1; rw [h1]; simp
    · by_cases c2 : w - 1 = j
      · subst c2; rw [h2]; simp
      · simp [c1, c2]
section COUNT
variable {w h : Nat} {r : Bool} {A : Nat → Int32} {z0 : tq_S} {Q : tq_O → tq_S → Prop}
/-- what the reference's board is, as far as counting goes -/
def cr_b (w h : Nat) (r : Bool) (z : tq_S) : Prop := tq_fi z 3265 = nI w ∧ tq_fi z 3266 = nI h ∧ tq_fi z 3267 = (if r = true then nI 1 else nI 0)
theorem cr_bf {F : List (Nat × Nat)} {z z1 : tq_S} (hf : fr F z z1) (h1 : (0, 3265) ∉ F) (h2 : (0, 3266) ∉ F) (h3 : (0, 3267) ∉ F) (hb : cr_b w h r z) : cr_b w h r z1 := ⟨(fr_fi hf h1).trans hb.1, (fr_fi hf h2).trans hb.2.1, (fr_fi hf h3).trans hb.2.2⟩
theorem cr_r0 {r : Bool} : (if r = true then nI 1 else nI 0) = (0 : Int32) ↔ r = false := by cases r <;> decide +kernel
/-- one row -/
theorem sp_crow {y : Nat} (bw1 : 1 ≤ w) (bw : w ≤ 8) (bh : h ≤ 8) (hy : y < h) (hS : cv_re w h (cs_ix A)) {W : Nat → Nat} (hW : ∀ m, W m < 9223372036854775808) {z : tq_S} (hb : cr_b w h r z) (hA : tq_ai z 53 = A) (hz : ∀ m, m < 256 → tq_al z 54 m = lN (W m)) {B32 : Int32 → tq_S → Prop} (k : ∀ z', fr [(3, 54), (3, 55)] z z' → (∀ d, d < 256 → tq_al z' 54 d = lN (fb_sm (fun m => W m * cv_G w r y (cs_ix A) m d) (2 ^ w))) → B32 (nI (y + 1)) z') : wc_X12_count_42 B32 Q (nI y) (0 : Int32) z := by
  have hp : 2 ^ w ≤ 256 := by
    have : (2 : Nat) ^ w ≤ 2 ^ 8 := Nat.pow_le_pow_right (by omega) (by omega)
    omega
  unfold wc_X12_count_42
  refine lp_inv (fun m s => ∃ z', s = (nI m, z') ∧ fr [(3, 54), (3, 55)] z z' ∧ tq_al z' 54 = tq_al z 54 ∧ ∀ d, d < m → tq_al z' 55 d = lN 0) 256 ?_ ⟨z, rfl, fr_r, rfl, fun d hd => by omega⟩
  rintro m s hm ⟨z1, rfl, f1, e1, e2⟩ B hB
  simp only
  unfold wb_X12_count_42
  rw [i_256, i_1, i_add]
  refine ⟨fun h1 => ?_, fun h1 => ?_⟩
  · rw [i_le (by omega) (by omega)] at h1
    have hm : m = 256 := by omega
    subst hm
    unfold wc_X12_count_62
    intro v hv
    have hb1 := cr_bf f1 (by decide) (by decide) (by decide) hb
    have hv2 : v = nI (1 ||| 2 ^ (w - 1)) := by
      rw [hv, hb1.1, i_1, pk_sub bw1, ← i_1, i_pw (by omega), i_1, i_or]
    have hpe : 1 ||| 2 ^ (w - 1) < 256 := by
      have : (2 : Nat) ^ (w - 1) ≤ 2 ^ 7 := Nat.pow_le_pow_right (by omega) (by omega)
      exact Nat.or_lt_two_pow (n := 8) (by omega) (by omega)
    subst hv2
    unfold wc_X12_count_75
    refine lp_inv (fun m s => ∃ z', s = (nI m, z') ∧ fr [(3, 54), (3, 55)] z z' ∧ tq_al z' 54 = tq_al z 54 ∧ ∀ d, d < 256 → tq_al z' 55 d = lN (fb_sm (fun m => W m * cv_G w r y (cs_ix A) m d) m)) (2 ^ w) ?_ ⟨z1, rfl, f1, e1, e2⟩
    rintro m s hm ⟨z2, rfl, f2, e3, e4⟩ B' hB'
    simp only
    unfold wb_X12_count_75
    have hb2 := cr_bf f2 (by decide) (by decide) (by decide) hb
    have hA2 : tq_ai z2 53 = A := (fr_ai f2 (by decide)).trans hA
    rw [hb2.1, i_pw (by omega)]
    refine ⟨fun h2 => ?_, fun h2 => ?_⟩
    · rw [i_le (by omega) (by omega)] at h2
      have hm : m = 2 ^ w := by omega
      subst hm
      unfold wc_X12_count_168 wc_X12_count_170
      refine lp_inv (fun m s => ∃ z', s = (nI m, z') ∧ fr [(3, 54), (3, 55)] z z' ∧ tq_al z' 55 = tq_al z2 55 ∧ ∀ d, d < m → tq_al z' 54 d = tq_al z2 55 d) 256 ?_ ⟨z2, rfl, f2, rfl, fun d hd => by omega⟩
      rintro m s hm ⟨z3, rfl, f3, e5, e6⟩ B'' hB''
      simp only
      unfold wb_X12_count_170
      rw [i_256, i_1, i_add]
      refine ⟨fun h3 => ?_, fun h3 => ?_⟩
      · rw [i_le (by omega) (by omega)] at h3
        have hm : m = 256 := by omega
        subst hm
        unfold wc_X12_count_195
        intro v1 hv1
        subst hv1
        rw [i_1, i_add]
        exact k z3 f3 (fun d hd => by rw [e6 d hd, e4 d hd])
      · rw [i_le (by omega) (by omega)] at h3
        refine ⟨i_in (by omega) (by omega), i_in (by omega) (by omega), fun z4 e7 v2 e8 => ?_⟩
        subst e8
        refine hB'' (by omega) _ ⟨z4, rfl, ?_, ?_, ?_⟩
        · rw [e7]; exact fr_sal (by decide) f3
        · rw [e7, rw_aln (by decide)]; exact e5
        · intro d hd
          rw [e7, rw_ale, rw_updL, i_cl (by omega)]
          by_cases hdm : d = m
          · rw [if_pos hdm, e5, hdm]
          · rw [if_neg hdm]; exact e6 d (by omega)
    · rw [i_le (by omega) (by omega)] at h2
      have hm2 : m < 2 ^ w := by omega
      have hWm : tq_al z2 54 m = lN (W m) := by rw [e3]; exact hz m (by omega)
      rw [i_cl (by omega), hWm]
      have go : ∀ z3, fr [(3, 54), (3, 55)] z z3 → tq_al z3 54 = tq_al z 54 → (∀ d, d < 256 → tq_al z3 55 d = lN (fb_sm (fun m => W m * cv_G w r y (cs_ix A) m d) (m + 1))) → wc_X12_count_162 B32 (fun b3 z => B' (b3, z)) Q (nI y) (nI (1 ||| 2 ^ (w - 1))) (nI m) z3 := by
        intro z3 f3 e5 e6
        unfold wc_X12_count_162
        intro v1 hv1
        subst hv1
        rw [i_1, i_add]
        exact hB' hm2 _ ⟨z3, rfl, f3, e5, e6⟩
      refine ⟨i_in (by omega) (by omega), fun h3 => ?_, fun h3 => ?_⟩
      · rw [l_le0 (hW m)] at h3
        refine go z2 f2 e3 (fun d hd => ?_)
        rw [e4 d hd, fb_sm_succ, h3, Nat.zero_mul, Nat.add_zero]
      · refine ⟨i_in (by omega) (by omega), ?_⟩
        refine sp_fillRow bw bh hy hS 40 0 m 0 (W m) z2 _ (by omega) (by omega) (by omega) (by omega) hb2.1 hb2.2.1 hA2 (fun z3 f3 e5 => ⟨rfl, ?_⟩)
        have f3' : fr [(3, 54), (3, 55)] z z3 := fr_tm f2 (by decide) f3
        have e5' : tq_al z3 54 = tq_al z 54 := (fr_al f3 (by decide)).trans e3
        have hb3 := cr_bf f3' (by decide) (by decide) (by decide) hb
        have hA3 : tq_ai z3 53 = A := (fr_ai f3' (by decide)).trans hA
        -- without a piece that goes round
        have plain : ¬ (r = true ∧ cs_ix A (8 * y) = true ∧ cs_ix A (8 * y + (w - 1)) = true ∧ m.testBit 0 = false ∧ m.testBit (w - 1) = false) → wc_X12_count_162 B32 (fun b3 z => B' (b3, z)) Q (nI y) (nI (1 ||| 2 ^ (w - 1))) (nI m) z3 := by
          intro hc
          refine go z3 f3' e5' (fun d hd => ?_)
          rw [e5 d hd, e4 d hd, l_add, fb_sm_succ]
          unfold cv_G
          rw [if_neg hc, Nat.add_zero]
        refine ⟨fun h4 => ?_, fun h4 => ?_⟩
        · rw [hb3.2.2, cr_r0] at h4
          exact plain (fun hc => by rw [h4] at hc; exact Bool.false_ne_true hc.1)
        · have hr : r = true := by
            rw [hb3.2.2, cr_r0] at h4
            simpa using h4
          rw [show (0 : Int32) = nI 0 from rfl] 
          refine sp_isLeft hb3.1 hb3.2.1 bw bh (by omega) (by omega) ⟨_, rfl, fun h5 => ?_, fun h5 => ?_⟩
          · refine plain (fun hc => ?_)
            rw [hA3, Nat.add_zero, if_pos ⟨by omega, by omega, hc.2.1⟩] at h5
            cases h5
          · have hl0 : cs_ix A (8 * y) = true := by
              cases hc : cs_ix A (8 * y)
              · rw [hA3, Nat.add_zero, hc] at h5
                exact (h5 (if_neg (by simp))).elim
              · rfl
            rw [hb3.1, i_1, pk_sub bw1]
            refine sp_isLeft hb3.1 hb3.2.1 bw bh (by omega) (by omega) ⟨_, rfl, fun h6 => ?_, fun h6 => ⟨fun h7 => ?_, fun h7 => ?_⟩⟩
            · refine plain (fun hc => ?_)
              rw [hA3, if_pos ⟨by omega, by omega, hc.2.2.1⟩] at h6
              cases h6
            · refine plain (fun hc => h7 ?_)
              exact (i_tb0 (by omega) (by omega)).mpr (cv_ends.mpr hc.2.2.2)
            · have hl1 : cs_ix A (8 * y + (w - 1)) = true := by
                cases hc : cs_ix A (8 * y + (w - 1))
                · rw [hA3, hc] at h6
                  exact (h6 (if_neg (by simp))).elim
                · rfl
              have hc : r = true ∧ cs_ix A (8 * y) = true ∧ cs_ix A (8 * y + (w - 1)) = true ∧ m.testBit 0 = false ∧ m.testBit (w - 1) = false := ⟨hr, hl0, hl1, cv_ends.mp ((i_tb0 (by omega) (by omega)).mp h7)⟩
              refine ⟨i_in (by omega) (by omega), ?_⟩
              rw [i_or, e5', hz m (by omega)]
              have hor : m ||| (1 ||| 2 ^ (w - 1)) < 256 := Nat.or_lt_two_pow (n := 8) (by omega) (by omega)
              refine sp_fillRow bw bh hy hS 40 0 (m ||| (1 ||| 2 ^ (w - 1))) 0 (W m) z3 _ (by omega) (by omega) (by omega) (by omega) hb3.1 hb3.2.1 hA3 (fun z4 f4 e6 => ⟨rfl, ?_⟩)
              refine go z4 (fr_tm f3' (by decide) f4) ((fr_al f4 (by decide)).trans e5') (fun d hd => ?_)
              rw [e6 d hd, e5 d hd, e4 d hd, l_add, l_add, fb_sm_succ]
              unfold cv_G
              rw [if_pos hc, Nat.mul_add, Nat.add_assoc]
  · rw [i_le (by omega) (by omega)] at h1
    refine ⟨i_in (by omega) (by omega), fun z2 e3 v2 e4 => ?_⟩
    subst e4
    refine hB (by omega) _ ⟨z2, rfl, ?_, ?_, ?_⟩
    · rw [e3]; exact fr_sal (by decide) f1
    · rw [e3, rw_aln (by decide)]; exact e1
    · intro d hd
      rw [e3, rw_ale, rw_updL, i_cl (by omega)]
      by_cases hdm : d = m
      · rw [if_pos hdm]; rfl
      · rw [if_neg hdm]; exact e2 d (by omega)
theorem sp_count {z : tq_S} (bw1 : 1 ≤ w) (bw : w ≤ 8) (bh : h ≤ 8) (hS : cv_re w h (cs_ix (tq_ai z 53))) (hb : cr_b w h r z) (k : ∀ z', fr [(3, 54), (3, 55)] z z' → Q (.inl (some (.long (lN (cv_T w r 0 (cs_ix (tq_ai z 53))))))) z') : wm_X12_count z Q := by
  unfold wm_X12_count wc_X12_count_2
  refine lp_inv (fun m s => ∃ z', s = (nI m, z') ∧ fr [(3, 54), (3, 55)] z z' ∧ ∀ d, d < m → tq_al z' 54 d = lN (cv_W w r (cs_ix (tq_ai z 53)) 0 d)) 256 ?_ ⟨z, rfl, fr_r, fun d hd => by omega⟩
  rintro m s hm ⟨z1, rfl, f1, e1⟩ B hB
  simp only
  unfold wb_X12_count_2
  rw [i_256]
  refine ⟨fun h1 => ?_, fun h1 => ?_⟩
  · rw [i_le (by omega) (by omega)] at h1
    have hm : m = 256 := by omega
    subst hm
    unfold wc_X12_count_30 wc_X12_count_32
    refine lp_inv (fun y s => ∃ z', s = (nI y, z') ∧ fr [(3, 54), (3, 55)] z z' ∧ ∀ d, d < 256 → tq_al z' 54 d = lN (cv_W w r (cs_ix (tq_ai z 53)) y d)) h ?_ ⟨z1, rfl, f1, e1⟩
    rintro y s hy ⟨z2, rfl, f2, e2⟩ B' hB'
    simp only
    unfold wb_X12_count_32
    have hb2 := cr_bf f2 (by decide) (by decide) (by decide) hb
    rw [hb2.2.1]
    refine ⟨fun h2 => ?_, fun h2 => ?_⟩
    · rw [i_le (by omega) (by omega)] at h2
      have hy : y = h := by omega
      subst hy
      unfold wc_X12_count_201
      have e3 : tq_al z2 54 (Int32.toNatClampNeg (0 : Int32)) = lN (cv_T w r 0 (cs_ix (tq_ai z 53))) := by
        rw [i_0, i_cl (by omega), e2 0 (by omega), cv_end bw1 bw bh hS (fun m hm => cv_W9 bw hS m hm)]
      rw [e3]
      exact k z2 f2
    · rw [i_le (by omega) (by omega)] at h2
      refine sp_crow bw1 bw bh (by omega) hS (W := cv_W w r (cs_ix (tq_ai z 53)) y) (fun m => by have := cv_W1 (r := r) (S := cs_ix (tq_ai z 53)) (m := m) bw (show y ≤ 8 by omega); omega) hb2 (fr_ai f2 (by decide)) (fun m hm => e2 m hm) (fun z3 f3 e3 => ?_)
      exact hB' (by omega) _ ⟨z3, rfl, fr_t f2 f3, e3⟩
  · rw [i_le (by omega) (by omega)] at h1
    have st : ∀ v : Nat, v = cv_W w r (cs_ix (tq_ai z 53)) 0 m → wc_X12_count_23 (fun b1 z => B (b1, z)) Q (nI m) (lN v) (nI m) z1 := by
      intro v hv
      unfold wc_X12_count_23
      refine ⟨i_in (by omega) (by omega), fun z2 e3 v2 e4 => ?_⟩
      subst e4
      rw [i_1, i_add]
      refine hB (by omega) _ ⟨z2, rfl, ?_, ?_⟩
      · rw [e3]; exact fr_sal (by decide) f1
      · intro d hd
        rw [e3, rw_ale, rw_updL, i_cl (by omega)]
        by_cases hdm : d = m
        · rw [if_pos hdm, hdm, hv]
        · rw [if_neg hdm]; exact e1 d (by omega)
    refine ⟨fun h2 => st 0 ?_, fun h2 => st 1 ?_⟩
    · show 0 = if m = 0 then 1 else 0
      rw [if_neg]
      intro e; exact h2 (by rw [e]; rfl)
    · show 1 = if m = 0 then 1 else 0
      rw [i_0, i_eq (by omega) (by omega)] at h2
      rw [if_pos h2]
end COUNT
