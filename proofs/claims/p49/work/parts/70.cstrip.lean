/-! ===== strips: the class's calls ===== -/
def sqk (w i k : Nat) : Int := fb_si (fun t => sF w (t + 1) * ((sN w (i - 1 - t) / 1000000000 ^ k : Nat) : Int)) (sOrd w)
def ssk (w i k : Nat) : Int := fb_si (fun t => sF w (t + 1) * ((dl (sN w (i - 1 - t)) k : Nat) : Int)) (sOrd w)
theorem sqk_s (w i k : Nat) : sqk w i k = 1000000000 * sqk w i (k + 1) + ssk w i k := by
  unfold sqk ssk
  rw [← fb_si_mul, ← fb_si_add]
  refine fb_si_cong (fun t ht => ?_)
  have d := dl_div (sN w (i - 1 - t)) k
  have e : ((sN w (i - 1 - t) / 1000000000 ^ k : Nat) : Int) = 1000000000 * ((sN w (i - 1 - t) / 1000000000 ^ (k + 1) : Nat) : Int) + ((dl (sN w (i - 1 - t)) k : Nat) : Int) := by omega
  rw [e, Int.mul_add, Int.mul_left_comm]
theorem sqk_0 {w i : Nat} (hw : wd w) (h : sOrd w ≤ i) (hi : i ≤ 300) : sqk w i 0 = ((sN w i : Nat) : Int) := by
  have ho := wd_o hw
  obtain ⟨n, rfl⟩ : ∃ n, i = n + 1 := ⟨i - 1, by omega⟩
  rw [sN_X hw hi, sX_r h]
  unfold sqk
  refine fb_si_cong (fun t ht => ?_)
  have e : n + 1 - 1 - t = n - t := by omega
  rw [Nat.pow_zero, Nat.div_one, e, sN_X hw (by omega)]
theorem ssk_b {w i k m : Nat} (hw : wd w) (hm : m ≤ sOrd w) : -800000000000 ≤ fb_si (fun t => sF w (t + 1) * ((dl (sN w (i - 1 - t)) k : Nat) : Int)) m ∧ fb_si (fun t => sF w (t + 1) * ((dl (sN w (i - 1 - t)) k : Nat) : Int)) m ≤ 800000000000 := by
  have ho := wd_o hw
  have h := fb_si_bound (f := fun t => sF w (t + 1) * ((dl (sN w (i - 1 - t)) k : Nat) : Int)) (c := 100000000000) (by omega) (n := m) (fun t ht => by
    have b := sF_b hw (i := t) (by omega)
    have d := dl_lt (sN w (i - 1 - t)) k
    generalize sF w (t + 1) = f at b
    generalize dl (sN w (i - 1 - t)) k = x at d
    have h1 : f * (x : Int) ≤ 100 * (x : Int) := Int.mul_le_mul_of_nonneg_right b.2 (by omega)
    have h2 : -100 * (x : Int) ≤ f * (x : Int) := Int.mul_le_mul_of_nonneg_right b.1 (by omega)
    omega)
  have hm2 : (m : Int) * 100000000000 ≤ 8 * 100000000000 := Int.mul_le_mul_of_nonneg_right (by omega) (by omega)
  omega
section CSTRIP
variable {z : tq_S} {Q : tq_O → tq_S → Prop} {w : Nat}
theorem sp_fdiv {a : Int64} (k : ∀ v : Int64, v.toInt = a.toInt / 1000000000 → Q (.inl (some (.long v))) z) : wm_J9_floorDiv_f86c9 a (1000000000 : Int64) z Q := by
  have ab := fb_rngL a
  have h2 := Int.mul_tdiv_add_tmod a.toInt 1000000000
  have h3 := Int.tmod_lt_of_pos a.toInt (b := 1000000000) (by omega)
  have h4 := Int.lt_tmod_of_pos a.toInt (b := 1000000000) (by omega)
  have h5 : 0 ≤ a.toInt → 0 ≤ a.toInt.tmod 1000000000 := fun h => Int.tmod_nonneg _ h
  have h6 : a.toInt ≤ 0 → a.toInt.tmod 1000000000 ≤ 0 := fun h => by
    have h7 : 0 ≤ (-a.toInt).tmod 1000000000 := Int.tmod_nonneg _ (by omega)
    rw [Int.neg_tmod] at h7; omega
  unfold wm_J9_floorDiv_f86c9
  refine ⟨by decide +kernel, fun v1 e1 => ?_⟩
  have t1 : v1.toInt = a.toInt.tdiv 1000000000 := by rw [e1, lz_div]
  have t2 : (v1 * (1000000000 : Int64)).toInt = a.toInt.tdiv 1000000000 * 1000000000 := by
    rw [fb_mulL (by rw [t1, lz_B]; omega) (by rw [t1, lz_B]; omega), t1, lz_B]
  have e9 : (1000000000 : Int64) = lN 1000000000 := rfl
  rw [e9, l_msb a (by omega), ← e9]
  refine ⟨fun q1 => k _ (by omega), fun q1 => ⟨fun q2 => k _ ?_, fun q2 => k _ ?_⟩⟩
  · have := congrArg Int64.toInt q2
    rw [t2] at this
    omega
  · have q3 : a.toInt.tdiv 1000000000 * 1000000000 ≠ a.toInt := fun e => q2 (Int64.toInt_inj.mp (by rw [t2, e]))
    have t3 : (1 : Int64).toInt = 1 := by decide +kernel
    rw [fb_subL (by rw [t1, t3]; omega) (by rw [t1, t3]; omega), t1, t3]
    omega
/-- the latest terms -/
def TR (w i : Nat) (z : tq_S) : Prop := ∀ n, n < i → i ≤ n + 9 → ∀ k, k < 26 → tq_ai z 39 (n % 9 * 26 + k) = nI (dl (sN w n) k)
theorem TR_s {i : Nat} {z1 : tq_S} (h : TR w i z) (h1 : ∀ k, k < 26 → tq_ai z1 39 (i % 9 * 26 + k) = nI (dl (sN w i) k)) (h2 : ∀ j, (j < i % 9 * 26 ∨ i % 9 * 26 + 26 ≤ j) → tq_ai z1 39 j = tq_ai z 39 j) : TR w (i + 1) z1 := by
  intro n hn1 hn2 k hk
  by_cases q : n = i
  · subst q; exact h1 k hk
  · rw [h2 _ (by omega)]
    exact h n (by omega) (by omega) k hk
theorem sq_putTerm {i v : Nat} (hi : i < 1000) (hv : v < 9223372036854775808) (k : ∀ z', fr [(2, 39)] z z' → (∀ k, k < 26 → tq_ai z' 39 (i % 9 * 26 + k) = nI (dl v k)) → (∀ j, (j < i % 9 * 26 ∨ i % 9 * 26 + 26 ≤ j) → tq_ai z' 39 j = tq_ai z 39 j) → Q (.inl none) z') : wm_X6_putTerm (nI i) (lN v) z Q := by
  have m9 : i % 9 < 9 := Nat.mod_lt _ (by omega)
  unfold wm_X6_putTerm
  rw [i_9, pk_rem (by omega) (by omega) (by omega), i_26, pk_mul]
  intro v1 e1
  rw [e1]
  unfold wc_X6_putTerm_15
  refine lp_inv (fun m s => ∃ z', s = (lN (v / 1000000000 ^ m), nI m, z') ∧ fr [(2, 39)] z z' ∧ (∀ k, k < m → tq_ai z' 39 (i % 9 * 26 + k) = nI (dl v k)) ∧ ∀ j, (j < i % 9 * 26 ∨ i % 9 * 26 + 26 ≤ j) → tq_ai z' 39 j = tq_ai z 39 j) 26 ?_ ⟨z, by rw [Nat.pow_zero, Nat.div_one]; rfl, fr_r, fun k hk => by omega, fun j _ => rfl⟩
  rintro m s hm ⟨z1, rfl, f1, a1, a2⟩ B hB
  simp only
  have vlt : v / 1000000000 ^ m < 9223372036854775808 := Nat.lt_of_le_of_lt (Nat.div_le_self _ _) hv
  unfold wb_X6_putTerm_15
  rw [i_26, i_le (by omega) (by omega)]
  refine ⟨fun h1 => k z1 f1 (fun y hy => a1 y (by omega)) a2, fun h1 => ?_⟩
  rw [i_add, i_cl (by omega), show (1000000000 : Int64) = lN 1000000000 from rfl, pk_lRem vlt (by omega) (by omega), pk_lDiv vlt (by omega) (by omega), l_t32, Nat.div_div_eq_div_mul, ← Nat.pow_succ]
  refine ⟨i_in (by omega) (by omega), fun z2 e2 v3 e3 v4 e4 => ?_⟩
  rw [i_1, i_add] at e4
  have e6 : ∀ j, tq_ai z2 39 j = if j = i % 9 * 26 + m then nI (dl v m) else tq_ai z1 39 j := by
    intro j; rw [e2, rw_aie, rw_upd]; rfl
  refine hB (by omega) _ ⟨z2, by rw [e3, e4], by rw [e2]; exact fr_sai (by decide) f1, fun y hy => ?_, fun j hj => ?_⟩
  · rw [e6]
    by_cases q : y = m
    · rw [if_pos (by omega), q]
    · rw [if_neg (by omega)]; exact a1 y (by omega)
  · rw [e6, if_neg (by omega)]; exact a2 j hj
theorem sq_addTerms {i : Nat} (hw : wd w) (h : sOrd w ≤ i) (hi : i ≤ 300) (ht : TR w i z) (k : ∀ z', fr [(2, 39)] z z' → (∀ k, k < 26 → tq_ai z' 39 (i % 9 * 26 + k) = nI (dl (sN w i) k)) → (∀ j, (j < i % 9 * 26 ∨ i % 9 * 26 + 26 ≤ j) → tq_ai z' 39 j = tq_ai z 39 j) → Q (.inl none) z') : wm_X6_addTerms (nI w) (nI i) z Q := by
  have ho := wd_o hw
  have m9 : i % 9 < 9 := Nat.mod_lt _ (by omega)
  unfold wm_X6_addTerms
  refine sq_orderOf hw ⟨_, rfl, ?_⟩
  dsimp only
  rw [i_9, pk_rem (by omega) (by omega) (by omega), i_26, pk_mul]
  intro v1 e1
  rw [e1]
  unfold wc_X6_addTerms_20
  refine lp_inv (fun m s => ∃ z' c, s = (c, nI m, z') ∧ fr [(2, 39)] z z' ∧ c.toInt = ((sN w i / 1000000000 ^ m : Nat) : Int) - sqk w i m ∧ -2000 ≤ c.toInt ∧ c.toInt ≤ 2000 ∧ (∀ k, k < m → tq_ai z' 39 (i % 9 * 26 + k) = nI (dl (sN w i) k)) ∧ ∀ j, (j < i % 9 * 26 ∨ i % 9 * 26 + 26 ≤ j) → tq_ai z' 39 j = tq_ai z 39 j) 26 ?_ ⟨z, 0, rfl, fr_r, by rw [Nat.pow_zero, Nat.div_one, sqk_0 hw h hi]; show (0 : Int) = _; omega, by decide +kernel, by decide +kernel, fun k hk => by omega, fun j _ => rfl⟩
  rintro m s hm ⟨z1, c, rfl, f1, c1, c2, c3, a1, a2⟩ B hB
  simp only
  unfold wb_X6_addTerms_20
  rw [i_26, i_le (by omega) (by omega)]
  refine ⟨fun h1 => k z1 f1 (fun y hy => a1 y (by omega)) a2, fun h1 => ?_⟩
  have hB := hB (by omega)
  have last : ∀ v : Int64, v.toInt = c.toInt + ssk w i m → wc_X6_addTerms_84 (fun b5 b7 z => B (b5, b7, z)) Q (nI w) (nI i) (nI (sOrd w)) (nI (i % 9 * 26)) (nI m) v z1 := by
    intro v ev
    obtain ⟨y1, y2, y3⟩ := cy_s (W := sN w i) (k := m) (sqk_s w i m)
    have ev2 : v.toInt = ((sN w i / 1000000000 ^ m : Nat) : Int) - 1000000000 * sqk w i (m + 1) := by rw [ev, c1]; exact y1
    have vb := ssk_b (i := i) (k := m) hw (Nat.le_refl (sOrd w))
    have vb2 : ssk w i m = fb_si (fun t => sF w (t + 1) * ((dl (sN w (i - 1 - t)) m : Nat) : Int)) (sOrd w) := rfl
    rw [← vb2] at vb
    unfold wc_X6_addTerms_84
    have e9 : (1000000000 : Int64) = lN 1000000000 := rfl
    rw [e9]
    refine sp_fmod (by omega) (by omega) ⟨_, rfl, ?_⟩
    have dmd : dm v 1000000000 = dl (sN w i) m := by
      unfold dm
      have : ((1000000000 : Nat) : Int) = 1000000000 := rfl
      rw [this, ev2, y2]; rfl
    rw [dmd]
    dsimp only
    rw [i_add, i_cl (by omega), l_t32]
    refine ⟨i_in (by omega) (by omega), fun z2 e2 => ?_⟩
    rw [← e9]
    refine sp_fdiv (fun v3 e3 => ⟨_, rfl, fun v4 e4 => ?_⟩)
    rw [i_1, i_add] at e4
    rw [ev2, y3] at e3
    have e6 : ∀ j, tq_ai z2 39 j = if j = i % 9 * 26 + m then nI (dl (sN w i) m) else tq_ai z1 39 j := by
      intro j; rw [e2, rw_aie, rw_upd]
    have e3b : v3.toInt = v.toInt / 1000000000 := by rw [e3, ev2, y3]
    refine hB _ ⟨z2, v3, by rw [e4], by rw [e2]; exact fr_sai (by decide) f1, e3, by rw [e3b]; omega, by rw [e3b]; omega, fun y hy => ?_, fun j hj => ?_⟩
    · rw [e6]
      by_cases q : y = m
      · rw [if_pos (by omega), q]
      · rw [if_neg (by omega)]; exact a1 y (by omega)
    · rw [e6, if_neg (by omega)]; exact a2 j hj
  unfold wc_X6_addTerms_34
  refine lp_inv (fun t s => ∃ v : Int64, s = (v, nI (t + 1), z1) ∧ v.toInt = c.toInt + fb_si (fun t => sF w (t + 1) * ((dl (sN w (i - 1 - t)) m : Nat) : Int)) t) (sOrd w) ?_ ⟨c, rfl, by show _ = _ + (0 : Int); omega⟩
  rintro t s ht2 ⟨v, rfl, ev⟩ B2 hB2
  simp only
  unfold wb_X6_addTerms_34
  rw [i_lt (by omega) (by omega)]
  refine ⟨fun h2 => ?_, fun h2 => ?_⟩
  · have : t = sOrd w := by omega
    rw [this] at ev
    exact last v ev
  · have bt := ssk_b (i := i) (k := m) hw (show t ≤ sOrd w by omega)
    have bt1 := ssk_b (i := i) (k := m) hw (show t + 1 ≤ sOrd w by omega)
    rw [i_lt (by omega) (by omega)]
    refine ⟨fun h3 => by omega, fun _ => sq_factor hw (by omega) (fun f ef => ⟨_, rfl, ?_⟩)⟩
    rw [pk_sub (by omega), i_9, pk_rem (by omega) (by omega) (by omega), i_26, pk_mul, i_add]
    have m92 : (i - (t + 1)) % 9 < 9 := Nat.mod_lt _ (by omega)
    have rd : tq_ai z1 39 ((i - (t + 1)) % 9 * 26 + m) = nI (dl (sN w (i - 1 - t)) m) := by
      rw [a2 _ (by omega)]
      have e : i - 1 - t = i - (t + 1) := by omega
      rw [e]
      exact ht _ (by omega) (by omega) m (by omega)
    have dlt := dl_lt (sN w (i - 1 - t)) m
    dsimp only
    rw [i_cl (by omega), rd]
    refine ⟨i_in (by omega) (by omega), fun v3 e3 v4 e4 => ?_⟩
    rw [i_1, i_add] at e4
    have bf := sF_b hw (i := t) (by omega)
    have x1 : (Int32.toInt64 f).toInt = sF w (t + 1) := by rw [Int32.toInt_toInt64, ef]
    have x2 : (Int32.toInt64 (nI (dl (sN w (i - 1 - t)) m))).toInt = ((dl (sN w (i - 1 - t)) m : Nat) : Int) := by rw [i_to (by omega)]; exact pk_lT (by omega)
    have st : fb_si (fun t => sF w (t + 1) * ((dl (sN w (i - 1 - t)) m : Nat) : Int)) (t + 1) = fb_si (fun t => sF w (t + 1) * ((dl (sN w (i - 1 - t)) m : Nat) : Int)) t + sF w (t + 1) * ((dl (sN w (i - 1 - t)) m : Nat) : Int) := rfl
    have x3 : (Int32.toInt64 f * Int32.toInt64 (nI (dl (sN w (i - 1 - t)) m))).toInt = sF w (t + 1) * ((dl (sN w (i - 1 - t)) m : Nat) : Int) := by
      rw [fb_mulL (by rw [x1, x2]; omega) (by rw [x1, x2]; omega), x1, x2]
    refine hB2 (by omega) _ ⟨v3, by rw [e4], ?_⟩
    rw [e3, fb_addL (by rw [x3]; omega) (by rw [x3]; omega), x3, ev, st]; omega
theorem sq_putLimbs {s N : Nat} (hs : s ≤ 208) (hN : N < 1000000000 ^ 26) (hl : ∀ k, k < 26 → tq_ai z 39 (s + k) = nI (dl N k)) (k : ∀ z', fr [(0, 2945), (0, 2946), (2, 47)] z z' → bw N z' → tq_fi z' 2946 = 0 → Q (.inl none) z') : wm_X0_putLimbs (nI s) (26 : Int32) z Q := by
  unfold wm_X0_putLimbs
  intro z1 e1 z2 e2
  have f2 : fr [(0, 2945), (0, 2946), (2, 47)] z z2 := by rw [e2]; refine fr_sfi (by decide) ?_; rw [e1]; exact fr_sfi (by decide) fr_r
  have n2 : tq_fi z2 2946 = 0 := by rw [e2]; show tq_fi z1 2946 = 0; rw [e1]; rfl
  have u2 : tq_fi z2 2945 = nI (nd (N % 1000000000 ^ 0)) := by rw [Nat.pow_zero, Nat.mod_one, nd_0, e2]; rfl
  unfold wc_X0_putLimbs_13
  refine lp_inv (fun m s => ∃ z', s = (nI m, z') ∧ fr [(0, 2945), (0, 2946), (2, 47)] z z' ∧ tq_fi z' 2946 = 0 ∧ tq_fi z' 2945 = nI (nd (N % 1000000000 ^ m)) ∧ ∀ j, j < m → tq_ai z' 47 j = nI (dl N j)) 26 ?_ ⟨z2, rfl, f2, n2, u2, fun j hj => by omega⟩
  rintro m t hm ⟨z3, rfl, f3, n3, u3, a3⟩ B hB
  simp only
  unfold wb_X0_putLimbs_13
  rw [i_26, i_le (by omega) (by omega)]
  refine ⟨fun h1 => ?_, fun h1 => ?_⟩
  · have : m = 26 := by omega
    subst this
    rw [Nat.mod_eq_of_lt hN] at u3
    have le := nd_le hN
    exact k z3 f3 ⟨by omega, u3, fun j hj => a3 j (by omega)⟩ n3
  · have hB := hB (by omega)
    have c234 : Int32.ofNat 234 = nI 234 := rfl
    have dlt := dl_lt N m
    rw [i_34, i_le (by omega) (by omega), i_add, c234, i_le (by omega) (by omega), i_cl (by omega), i_cl (by omega), fr_ai (k := 39) f3 (by decide), hl m (by omega)]
    refine ⟨fun h2 => by omega, fun _ => ⟨fun h2 => by omega, fun _ => ⟨i_in (by omega) (by omega), i_in (by omega) (by omega), fun z4 e4 => ?_⟩⟩⟩
    have e6 : ∀ j, tq_ai z4 47 j = if j = m then nI (dl N m) else tq_ai z3 47 j := by
      intro j; rw [e4, rw_aie, rw_upd]
    have f4 : fr [(0, 2945), (0, 2946), (2, 47)] z z4 := by rw [e4]; exact fr_sai (by decide) f3
    have ms : N % 1000000000 ^ (m + 1) = N % 1000000000 ^ m + 1000000000 ^ m * dl N m := Nat.mod_pow_succ
    have a4 : ∀ j, j < m + 1 → tq_ai z4 47 j = nI (dl N j) := by
      intro j hj
      rw [e6]
      by_cases q : j = m
      · rw [if_pos q, q]
      · rw [if_neg q]; exact a3 j (by omega)
    have fin : ∀ z5, fr [(0, 2945), (0, 2946), (2, 47)] z z5 → tq_fi z5 2946 = 0 → tq_fi z5 2945 = nI (nd (N % 1000000000 ^ (m + 1))) → tq_ai z5 47 = tq_ai z4 47 → wc_X0_putLimbs_66 (fun b4 z => B (b4, z)) Q (nI s) (nI 26) (nI m) z5 := by
      intro z5 f5 n5 u5 e5
      unfold wc_X0_putLimbs_66
      intro v ev
      rw [i_1, i_add] at ev
      exact hB _ ⟨z5, by rw [ev], f5, n5, u5, fun j hj => by rw [e5]; exact a4 j hj⟩
    rw [e6, if_pos rfl, i_0, i_eq (by omega) (by omega)]
    refine ⟨i_in (by omega) (by omega), fun h2 => fin z4 f4 ?_ ?_ rfl, fun h2 z5 e5 => fin z5 ?_ ?_ ?_ ?_⟩
    · rw [e4]; exact n3
    · rw [e4]
      show tq_fi z3 2945 = _
      rw [u3, ms, h2, Nat.mul_zero, Nat.add_zero]
    · rw [e5]; exact fr_sfi (by decide) f4
    · rw [e5]
      show tq_fi z4 2946 = 0
      rw [e4]; exact n3
    · have hp : 0 < 1000000000 ^ m := Nat.pow_pos (by omega)
      have h5 : 1000000000 ^ m * 1 ≤ 1000000000 ^ m * dl N m := Nat.mul_le_mul_left _ (by omega)
      have h6 : nd (N % 1000000000 ^ (m + 1)) = m + 1 := nd_u (m + 1) _ (Nat.mod_lt _ (Nat.pow_pos (by omega))) (Or.inr (by
        rw [ms]
        show 1000000000 ^ m ≤ _
        omega))
      rw [h6, e5, rw_fie, i_1, i_add]
    · rw [e5]; rfl
theorem bf_X {n : Nat} (hw : wd w) (hn : n < 31) (h : n < sOrd w ∨ w ≤ 4) : (bfL w n).getD 0 0 = sN w n := by
  have key : ((((bfL w n).getD 0 0 : Nat) : Int)) = sX w n := by
    have get : ∀ m, bfOk w m = true → n < m → ((((bfL w n).getD 0 0 : Nat) : Int)) = sX w n := by
      intro m hm hlt
      unfold bfOk at hm
      rw [List.all_eq_true] at hm
      have := hm n (List.mem_range.mpr hlt)
      rw [decide_eq_true_eq] at this
      exact this
    rcases hw with rfl | rfl | rfl | rfl | rfl | rfl
    · exact get 31 bfOk_1 hn
    · exact get 31 bfOk_2 hn
    · exact get 31 bfOk_3 hn
    · exact get 31 bfOk_4 hn
    · refine get 8 bfOk_5 ?_
      rcases h with q | q
      · have : sOrd 5 = 8 := by decide +kernel
        omega
      · omega
    · refine get 8 bfOk_6 ?_
      rcases h with q | q
      · have : sOrd 6 = 8 := by decide +kernel
        omega
      · omega
  rw [← sN_X hw (by omega)] at key
  exact Int.ofNat.inj key
theorem sN_s {n : Nat} (hw : wd w) (h : n < sOrd w) : sN w n < 9223372036854775808 := by
  have ho := wd_o hw
  have e := sN_X hw (show n ≤ 300 by omega)
  rw [sX_i h] at e
  have key : ∀ w : Fin 7, ∀ i : Fin 8, (sIni w.val).getD i.val 0 < 100000 := by decide +kernel
  have hb := wd_b hw
  have := key ⟨w, by omega⟩ ⟨n, by omega⟩
  simp only at this
  omega
def FG : List (Nat × Nat) := [(2, 39), (3, 40), (3, 41), (0, 2945), (0, 2946), (2, 47)]
theorem sq_byRule {n : Nat} (hw : wd w) (hn : n ≤ 300) (k : ∀ z', fr FG z z' → bw (sN w n) z' → tq_fi z' 2946 = 0 → Q (.inl none) z') : wm_X6_byRule (nI w) (nI n) z Q := by
  have ho := wd_o hw
  unfold wm_X6_byRule
  refine sq_orderOf hw ⟨_, rfl, ?_⟩
  unfold wc_X6_byRule_9
  refine lp_inv (fun i s => ∃ z', s = (nI i, z') ∧ fr FG z z' ∧ TR w i z') (n + 1) ?_ ⟨z, rfl, fr_r, fun m hm => by omega⟩
  rintro i s hi ⟨z1, rfl, f1, t1⟩ B hB
  simp only
  unfold wb_X6_byRule_9
  rw [i_lt (by omega) (by omega)]
  refine ⟨fun h1 => ?_, fun h1 => ?_⟩
  · have : i = n + 1 := by omega
    subst this
    have m9 : n % 9 < 9 := Nat.mod_lt _ (by omega)
    unfold wc_X6_byRule_51
    have e26 : nI (n % 9) * (26 : Int32) = nI (n % 9 * 26) := by rw [i_26, pk_mul]
    rw [i_9, pk_rem (by omega) (by omega) (by omega), e26]
    refine sq_putLimbs (by omega) (sN_b hw hn) (fun y hy => t1 n (by omega) (by omega) y hy) (fun z2 f2 b2 n2 => ⟨rfl, k z2 (fr_t f1 (fr_m (by decide) f2)) b2 n2⟩)
  · have hB := hB (by omega)
    have fin : ∀ z2, fr FG z z2 → TR w (i + 1) z2 → wc_X6_byRule_45 (fun b5 z => B (b5, z)) Q (nI w) (nI n) (nI (sOrd w)) (nI i) z2 := by
      intro z2 f2 t2
      unfold wc_X6_byRule_45
      intro v e
      rw [i_1, i_add] at e
      exact hB _ ⟨z2, by rw [e], f2, t2⟩
    rw [i_le (by omega) (by omega)]
    refine ⟨fun h2 => ?_, fun h2 => ?_⟩
    · exact sq_addTerms hw h2 (by omega) t1 (fun z2 f2 a2 b2 => ⟨rfl, fin z2 (fr_t f1 (fr_m (by decide) f2)) (TR_s t1 a2 b2)⟩)
    · refine sq_byFront hw (by omega) (fun z2 f2 => ⟨_, rfl, ?_⟩)
      rw [bf_X hw (by omega) (Or.inl (by omega))]
      have t2 : TR w i z2 := fun m h3 h4 y hy => by rw [fr_ai f2 (by decide)]; exact t1 m h3 h4 y hy
      exact sq_putTerm (by omega) (sN_s hw (by omega)) (fun z3 f3 a3 b3 => ⟨rfl, fin z3 (fr_t f1 (fr_t (fr_m (by decide) f2) (fr_m (by decide) f3))) (TR_s t2 a3 b3)⟩)
end CSTRIP
