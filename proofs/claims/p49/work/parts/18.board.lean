/-! ===== boards ===== -/
def bi (b : Bool) : Int32 := if b = true then nI 1 else nI 0
theorem bi_0 {b : Bool} : bi b = 0 ↔ b = false := by cases b <;> decide +kernel
theorem bi_n {b : Bool} : ¬ bi b = 0 ↔ b = true := by cases b <;> decide +kernel
theorem bi_z {b : Bool} : tq_nz (bi b) := by cases b
                                             · exact Or.inl rfl
                                             · exact Or.inr rfl
theorem bi_v {b : Bool} : vp_nar .boolean (bi b) = bi b := by cases b <;> decide +kernel
def jd (w h : Nat) (r : Bool) (S : Nat → Bool) : Prop := 1 ≤ w ∧ w ≤ 8 ∧ 1 ≤ h ∧ h ≤ 8 ∧ (r = true → w % 2 = 0 ∧ 4 ≤ w) ∧ cv_re w h S
def jc (w h : Nat) (r : Bool) (S : Nat → Bool) (z : tq_S) : Prop := tq_fi z 64 = nI w ∧ tq_fi z 65 = nI h ∧ tq_fi z 66 = bi r ∧ ∀ j, ct (tq_fl z 67) j = S j
section BOARD
variable {w h : Nat} {r : Bool} {S : Nat → Bool} {z z1 : tq_S} {Q : tq_O → tq_S → Prop} {F : List (Nat × Nat)}
theorem jc_f (hf : fr F z z1) (h1 : (0, 64) ∉ F) (h2 : (0, 65) ∉ F) (h3 : (0, 66) ∉ F) (h4 : (1, 67) ∉ F) (hj : jc w h r S z) : jc w h r S z1 := ⟨(fr_fi hf h1).trans hj.1, (fr_fi hf h2).trans hj.2.1, (fr_fi hf h3).trans hj.2.2.1, fun j => by rw [fr_fl hf h4]; exact hj.2.2.2 j⟩
def ho (w h : Nat) (S : Nat → Bool) (x y : Int32) : Bool := decide (0 ≤ x.toInt) && decide (x.toInt < (w : Int)) && decide (0 ≤ y.toInt) && decide (y.toInt < (h : Int)) && S (8 * y.toInt.toNat + x.toInt.toNat)
def fi (a b : Int) (x : Int32) : Bool := decide (a ≤ x.toInt) && decide (x.toInt ≤ b)
theorem i_z : (0 : Int32).toInt = 0 := rfl
theorem ho_n {a b : Nat} (ha : a < 2147483648) (hb : b < 2147483648) : ho w h S (nI a) (nI b) = (decide (a < w) && decide (b < h) && S (8 * b + a)) := by
  unfold ho
  rw [i_ti ha, i_ti hb, decide_eq_true (by omega : (0 : Int) ≤ (a : Int)), decide_eq_true (by omega : (0 : Int) ≤ (b : Int))]
  simp
theorem sq_holds {x y : Int32} (bw : w ≤ 8) (bh : h ≤ 8) (hj : jc w h r S z) (k : Q (.inl (some (.int (bi (ho w h S x y))))) z) : wm_X1_holds x y z Q := by
  unfold wm_X1_holds
  rw [hj.1, hj.2.1]
  have f : ho w h S x y = false → Q (.inl (some (.int (0 : Int32)))) z := fun e => by rw [e] at k; exact k
  refine ⟨fun h1 => f ?_, fun h1 => ⟨fun h2 => f ?_, fun h2 => ⟨fun h3 => f ?_, fun h3 => ⟨fun h4 => f ?_, fun h4 => ?_⟩⟩⟩⟩
  · rw [nu_lt, i_z] at h1
    unfold ho; rw [decide_eq_false (by omega : ¬ (0 : Int) ≤ x.toInt)]; simp
  · rw [nu_le, i_ti (by omega)] at h2
    unfold ho; rw [decide_eq_false (by omega : ¬ x.toInt < (w : Int))]; simp
  · rw [nu_lt, i_z] at h3
    unfold ho; rw [decide_eq_false (by omega : ¬ (0 : Int) ≤ y.toInt)]; simp
  · rw [nu_le, i_ti (by omega)] at h4
    unfold ho; rw [decide_eq_false (by omega : ¬ y.toInt < (h : Int))]; simp
  · obtain ⟨a, ha, rfl⟩ := i_ex h1
    obtain ⟨b, hb, rfl⟩ := i_ex h3
    rw [i_le (by omega) (by omega)] at h2 h4
    rw [ho_n ha hb, decide_eq_true (by omega : a < w), decide_eq_true (by omega : b < h)] at k
    rw [i_8, pk_mul, i_add, ct_t1 (by omega), hj.2.2.2]
    refine ⟨fun h5 => ?_, fun h5 => ?_⟩
    · rw [h5] at k; exact k
    · rw [Bool.not_eq_false] at h5
      rw [h5] at k; exact k
theorem sq_isFrom {x lo hi : Int32} (k : Q (.inl (some (.int (bi (fi lo.toInt hi.toInt x))))) z) : wm_X11_isFrom lo x hi z Q := by
  unfold wm_X11_isFrom
  unfold fi at k
  refine ⟨fun h1 => ?_, fun h1 => ⟨fun h2 => ?_, fun h2 => ?_⟩⟩
  · rw [nu_lt] at h1
    rw [decide_eq_false (by omega : ¬ lo.toInt ≤ x.toInt)] at k; exact k
  · rw [nu_lt] at h2
    rw [decide_eq_false (by omega : ¬ x.toInt ≤ hi.toInt), Bool.and_false] at k; exact k
  · rw [nu_lt] at h1 h2
    rw [decide_eq_true (by omega : lo.toInt ≤ x.toInt), decide_eq_true (by omega : x.toInt ≤ hi.toInt)] at k; exact k
theorem sq_size (hj : jc w h r S z) (k : Q (.inl (some (.int (nI (fb_ct S 64))))) z) : wm_X1_size z Q := by
  unfold wm_X1_size
  refine sp_bc ⟨_, rfl, ?_⟩
  have : fb_ct (ct (tq_fl z 67)) 64 = fb_ct S 64 := fb_ct_cong (fun j _ => hj.2.2.2 j)
  rw [this]; exact k
end BOARD
theorem ct_lN (n j : Nat) : ct (lN n) j = (decide (j < 64) && n.testBit j) := by
  show (BitVec.ofNat 64 n).getLsbD j = _
  rw [BitVec.getLsbD_ofNat]
/-- all cells of a rectangle -/
def re_S (w h : Nat) : Nat → Bool := fun j => decide (j % 8 < w) && decide (j / 8 < h)
theorem re_re {w h : Nat} (bh : h ≤ 8) : cv_re w h (re_S w h) := by
  intro j hj
  unfold re_S at hj
  simp only [Bool.and_eq_true, decide_eq_true_eq] at hj
  omega
theorem sq_rect {w h : Nat} {z : tq_S} {Q : tq_O → tq_S → Prop} (bw : w ≤ 8) (bh : h ≤ 8) (k : ∀ c, (∀ j, ct c j = re_S w h j) → Q (.inl (some (.long c))) z) : wm_X1_rectangleOf (nI w) (nI h) z Q := by
  unfold wm_X1_rectangleOf
  intro v1 e1
  have p1 : 1 ≤ 2 ^ w := Nat.one_le_pow _ _ (by omega)
  rw [l_1, wb_shl _ (by omega), Nat.one_mul, l_sub p1] at e1
  unfold wc_X1_rectangleOf_12
  refine lp_inv (fun m s => ∃ c, s = (c, nI m, z) ∧ ∀ j, ct c j = re_S w m j) h ?_ ⟨0, rfl, fun j => by rw [ct_0]; unfold re_S; simp⟩
  rintro m s hm ⟨c, rfl, hc⟩ B hB
  simp only
  unfold wb_X1_rectangleOf_12
  refine ⟨fun h1 => ?_, fun h1 => ?_⟩
  · rw [i_le (by omega) (by omega)] at h1
    have : m = h := by omega
    subst this; exact k c hc
  · rw [i_le (by omega) (by omega)] at h1
    intro v2 e2 v3 e3
    rw [i_1, i_add] at e3
    subst e3
    refine hB (by omega) _ ⟨v2, rfl, fun j => ?_⟩
    rw [e2, ct_or, hc, i_8, pk_mul, ct_shl _ _ (by omega), e1, ct_lN, Nat.testBit_two_pow_sub_one]
    unfold re_S
    by_cases a1 : j < 64
    · by_cases a2 : j % 8 < w
      · by_cases a3 : j / 8 < m
        · simp [a1, a2, a3]; omega
        · by_cases a4 : j / 8 = m
          · have b1 : 8 * m ≤ j := by omega
            have b2 : j - 8 * m < w := by omega
            have b3 : j - 8 * m < 64 := by omega
            have b4 : j / 8 < m + 1 := by omega
            simp [a1, a2, b1, b2, b3, b4]
          · have b1 : ¬ (8 * m ≤ j ∧ j - 8 * m < w) := by omega
            have b4 : ¬ j / 8 < m + 1 := by omega
            simp only [a1, a2, a3, b4, decide_true, decide_false, Bool.true_and, Bool.false_or, Bool.and_false]
            by_cases b5 : 8 * m ≤ j
            · rw [decide_eq_false (fun q => b1 ⟨b5, q⟩)]; simp
            · rw [decide_eq_false b5]; simp
      · have b1 : ¬ (8 * m ≤ j ∧ j - 8 * m < w) := by omega
        simp only [a1, a2, decide_true, decide_false, Bool.true_and, Bool.false_and, Bool.false_or]
        by_cases b5 : 8 * m ≤ j
        · rw [decide_eq_false (fun q => b1 ⟨b5, q⟩)]; simp
        · rw [decide_eq_false b5]; simp
    · have b1 : ¬ j / 8 < m := by omega
      have b2 : ¬ j / 8 < m + 1 := by omega
      simp [a1, b1, b2]
