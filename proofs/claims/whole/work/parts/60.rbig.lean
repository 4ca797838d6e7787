/-! ===== longs that may be below 0; the reference's big sums ===== -/
def BI : Int := 1000000000
theorem lz_B : (1000000000 : Int64).toInt = 1000000000 := by decide +kernel
theorem lz_div {x : Int64} : (x / (1000000000 : Int64)).toInt = x.toInt.tdiv 1000000000 := by
  rw [Int64.toInt_div_of_ne_right _ _ (by decide +kernel), lz_B]
theorem lz_rem {x : Int64} : (x - x / (1000000000 : Int64) * (1000000000 : Int64)).toInt = x.toInt.tmod 1000000000 := by
  have h1 := fb_rngL x
  have h2 := Int.mul_tdiv_add_tmod x.toInt 1000000000
  have h3 := Int.tmod_lt_of_pos x.toInt (b := 1000000000) (by omega)
  have h4 := Int.lt_tmod_of_pos x.toInt (b := 1000000000) (by omega)
  have h5 : 0 ≤ x.toInt → 0 ≤ x.toInt.tmod 1000000000 := fun h => Int.tmod_nonneg _ h
  have h6 : x.toInt ≤ 0 → x.toInt.tmod 1000000000 ≤ 0 := fun h => by
    have h7 : 0 ≤ (-x.toInt).tmod 1000000000 := Int.tmod_nonneg _ (by omega)
    rw [Int.neg_tmod] at h7; omega
  have e1 : (x / (1000000000 : Int64) * (1000000000 : Int64)).toInt = x.toInt.tdiv 1000000000 * 1000000000 := by
    rw [fb_mulL (by rw [lz_div, lz_B]; omega) (by rw [lz_div, lz_B]; omega), lz_div, lz_B]
  rw [fb_subL (by rw [e1]; omega) (by rw [e1]; omega), e1]
  omega
/-- a remainder as the language takes it, made one from 0 on -/
theorem lz_mod {x : Int} : (x.tmod 1000000000 = x % 1000000000 ∧ 0 ≤ x.tmod 1000000000) ∨ (x.tmod 1000000000 + 1000000000 = x % 1000000000 ∧ x.tmod 1000000000 < 0) := by
  have h2 := Int.mul_tdiv_add_tmod x 1000000000
  have h3 := Int.tmod_lt_of_pos x (b := 1000000000) (by omega)
  have h4 := Int.lt_tmod_of_pos x (b := 1000000000) (by omega)
  omega
theorem lz_ex {x : Int64} {v : Int} (h : x.toInt = v - v % 1000000000) : (x / (1000000000 : Int64)).toInt = v / 1000000000 := by
  rw [lz_div, h]
  have e : v - v % 1000000000 = 1000000000 * (v / 1000000000) := by omega
  rw [e]
  exact Int.mul_tdiv_cancel_left _ (by omega)
theorem lz_le0 {x : Int64} : (0 : Int64) ≤ x ↔ 0 ≤ x.toInt := by
  rw [Int64.le_iff_toInt_le]; exact Iff.rfl
theorem lz_N {x : Int64} {n : Nat} (hn : n < 9223372036854775808) (h : x.toInt = (n : Int)) : x = lN n := by
  refine Int64.toInt_inj.mp ?_
  rw [h, pk_lT (by omega)]
/-- digits of W, and what goes on -/
theorem cy_s {W k : Nat} {q q' s : Int} (h : q = 1000000000 * q' + s) : ((W / 1000000000 ^ k : Nat) : Int) - q + s = ((W / 1000000000 ^ k : Nat) : Int) - 1000000000 * q' ∧ (((W / 1000000000 ^ k : Nat) : Int) - 1000000000 * q') % 1000000000 = (dl W k : Int) ∧ (((W / 1000000000 ^ k : Nat) : Int) - 1000000000 * q') / 1000000000 = ((W / 1000000000 ^ (k + 1) : Nat) : Int) - q' := by
  have d1 := dl_div W k
  have d2 := dl_lt W k
  omega
section RBIG
variable {z : tq_S} {Q : tq_O → tq_S → Prop}
theorem sq_carry {s q : Nat → Int} {W : Nat} (h0 : q 0 = (W : Int)) (hq : ∀ k, k < 40 → q k = 1000000000 * q (k + 1) + s k) (hs : ∀ k, k < 40 → (tq_al z 83 k).toInt = s k) (hb : ∀ k, k < 40 → -1000000000000 ≤ s k ∧ s k ≤ 1000000000000) (k : ∀ z', fr [(3, 83)] z z' → (∀ i, i < 40 → tq_al z' 83 i = lN (dl W i)) → Q (.inl none) z') : wm_X12_carry z Q := by
  unfold wm_X12_carry wc_X12_carry_4
  refine lp_inv (fun i t => ∃ z' c, t = (c, nI i, z') ∧ fr [(3, 83)] z z' ∧ c.toInt = ((W / 1000000000 ^ i : Nat) : Int) - q i ∧ -2000 ≤ c.toInt ∧ c.toInt ≤ 2000 ∧ (∀ j, j < i → tq_al z' 83 j = lN (dl W j)) ∧ ∀ j, i ≤ j → j < 40 → (tq_al z' 83 j).toInt = s j) 40 ?_ ⟨z, 0, rfl, fr_r, by rw [Nat.pow_zero, Nat.div_one, h0]; show (0 : Int) = _; omega, by decide +kernel, by decide +kernel, fun j hj => by omega, fun j _ hj => hs j hj⟩
  rintro i t hi ⟨z1, c, rfl, f1, c1, c2, c3, a1, a2⟩ B hB
  simp only
  unfold wb_X12_carry_4
  rw [i_40]
  refine ⟨fun h1 => ?_, fun h1 => ⟨i_in (by rw [i_le (by omega) (by omega)] at h1; omega) (by omega), fun v1 e1 v2 e2 => ?_⟩⟩
  · rw [i_le (by omega) (by omega)] at h1
    exact k z1 f1 (fun j hj => a1 j (by omega))
  · rw [i_le (by omega) (by omega)] at h1
    have hB := hB (by omega)
    have hq := hq i (by omega)
    have hb := hb i (by omega)
    obtain ⟨y1, y2, y3⟩ := cy_s (W := W) (k := i) hq
    have s1 := a2 i (Nat.le_refl _) (by omega)
    have E1 : v1.toInt = ((W / 1000000000 ^ i : Nat) : Int) - 1000000000 * q (i + 1) := by
      rw [e1, i_cl (by omega), fb_addL (by rw [s1]; omega) (by rw [s1]; omega), s1, c1]; omega
    have E2 : v2.toInt = v1.toInt.tmod 1000000000 := by rw [e2, lz_rem]
    have dlt := dl_lt W i
    have vb : -1000000002000 ≤ v1.toInt ∧ v1.toInt ≤ 1000000002000 := by
      rw [e1, i_cl (by omega), fb_addL (by rw [s1]; omega) (by rw [s1]; omega), s1]; omega
    have fin : ∀ x : Int64, x.toInt = (dl W i : Int) → wc_X12_carry_46 (fun b1 b3 z => B (b1, b3, z)) Q (nI i) v1 x z1 := by
      intro x ex
      unfold wc_X12_carry_46
      refine ⟨i_in (by omega) (by omega), fun z2 e3 v3 e4 v4 e5 => ?_⟩
      rw [i_1, i_add] at e5
      have E4 : v3.toInt = ((W / 1000000000 ^ (i + 1) : Nat) : Int) - q (i + 1) := by
        rw [e4, lz_ex (v := v1.toInt) (by rw [fb_subL (by rw [ex]; omega) (by rw [ex]; omega), ex, E1, y2]), E1, y3]
      have e6 : ∀ j, tq_al z2 83 j = if j = i then x else tq_al z1 83 j := by
        intro j; rw [e3, rw_ale, rw_updL, i_cl (by omega)]
      refine hB _ ⟨z2, v3, by rw [e5], by rw [e3]; exact fr_sal (by decide) f1, E4, ?_, ?_, fun j hj => ?_, fun j h3 h4 => ?_⟩
      · rw [E4, ← y3, ← E1]; omega
      · rw [E4, ← y3, ← E1]; omega
      · rw [e6]
        by_cases u : j = i
        · rw [if_pos u, u]; exact lz_N (by omega) ex
        · rw [if_neg u]; exact a1 j (by omega)
      · rw [e6, if_neg (by omega)]; exact a2 j (by omega) h4
    have md := lz_mod (x := v1.toInt)
    rw [← E2, E1, y2] at md
    rw [lz_le0]
    refine ⟨fun h2 => fin _ (by omega), fun h2 => fin _ ?_⟩
    rw [fb_addL (by rw [lz_B]; omega) (by rw [lz_B]; omega), lz_B]
    omega
theorem pj_le {P li j k : Nat} (h : j ≤ k) (hk : k ≤ 9) : pj P li j ≤ P * 10 ^ k + li / 10 ^ (9 - k) := by
  unfold pj
  have h1 : P * 10 ^ j ≤ P * 10 ^ k := Nat.mul_le_mul_left _ (Nat.pow_le_pow_right (by omega) h)
  have h2 : li / 10 ^ (9 - j) ≤ li / 10 ^ (9 - k) := Nat.div_le_div_left (Nat.pow_le_pow_right (by omega) (by omega)) (Nat.pow_pos (by omega))
  omega
theorem p108 : ∀ j : Fin 9, (10 : Nat) ^ 8 / 10 ^ j.val = 10 ^ (8 - j.val) ∧ 0 < (10 : Nat) ^ (8 - j.val) ∧ (10 : Nat) ^ (8 - j.val) ≤ 100000000 ∧ (10 : Nat) ^ 8 / 10 ^ j.val / 10 = 10 ^ 8 / 10 ^ (j.val + 1) := by decide +kernel
theorem sq_putSum {N : Nat} (hN : N < 1000000000 ^ 40) (hs : ∀ i, i < 40 → tq_al z 83 i = lN (dl N i)) (k : ∀ z', fr [(0, 3279), (2, 60)] z z' → rt z' (tn false N) → Q (.inl (some (.int (nI (tn false N).length)))) z') : wm_X12_putSum z Q := by
  have t360 : ∀ m, m ≤ N → (dg m).length ≤ 360 := by
    intro m hm
    refine dg_len 359 m (Nat.lt_of_le_of_lt hm ?_)
    have : (1000000000 : Nat) ^ 40 = 10 ^ (359 + 1) := by decide +kernel
    omega
  -- the lower limbs
  have rest : ∀ t z1, t < 40 → (0 < t → 0 < N / 1000000000 ^ t) → fr [(0, 3279), (2, 60)] z z1 → rt z1 (dg (N / 1000000000 ^ t)) → wc_X12_putSum_43 Q (if 0 < t then nI (t - 1) else -1) z1 := by
    intro t z1 ht hp f1 r1
    unfold wc_X12_putSum_43
    refine lp_inv (fun m s => ∃ z', s = ((if m < t then nI (t - 1 - m) else -1 : Int32), z') ∧ fr [(0, 3279), (2, 60)] z z' ∧ rt z' (dg (N / 1000000000 ^ (t - m)))) t ?_ ⟨z1, rfl, f1, r1⟩
    rintro m s hm ⟨z2, rfl, f2, r2⟩ B hB
    simp only
    unfold wb_X12_putSum_43
    by_cases hmt : m < t
    · rw [if_pos hmt]
      refine ⟨fun h1 => absurd h1 (i_n0 (by omega)), fun _ => ?_⟩
      have hB := hB hmt
      obtain ⟨i, hi⟩ : ∃ i, t - m = i + 1 := ⟨t - m - 1, by omega⟩
      have hi2 : t - 1 - m = i := by omega
      have hi3 : t - (m + 1) = i := by omega
      rw [hi2]
      rw [hi3] at hB
      rw [hi] at r2
      have li := dl_lt N i
      have dd := dl_div N i
      have Pp : 0 < N / 1000000000 ^ (i + 1) := by
        have h1 := hp (by omega)
        refine Nat.lt_of_lt_of_le h1 ?_
        exact Nat.div_le_div_left (Nat.pow_le_pow_right (by omega) (by omega)) (Nat.pow_pos (by omega))
      have le9 : ∀ j, j ≤ 9 → pj (N / 1000000000 ^ (i + 1)) (dl N i) j ≤ N := by
        intro j hj
        have h1 := pj_le (P := N / 1000000000 ^ (i + 1)) (li := dl N i) hj (Nat.le_refl 9)
        have e1 : (10 : Nat) ^ 9 = 1000000000 := rfl
        have e2 : (10 : Nat) ^ (9 - 9) = 1 := rfl
        rw [e1, e2, Nat.div_one] at h1
        have h2 : N / 1000000000 ^ i ≤ N := Nat.div_le_self _ _
        omega
      have s2 : tq_al z2 83 i = lN (dl N i) := by rw [fr_al f2 (by decide)]; exact hs i (by omega)
      unfold wc_X12_putSum_51
      refine lp_inv (fun j s => ∃ z', s = (lN (10 ^ 8 / 10 ^ j), z') ∧ fr [(0, 3279), (2, 60)] z z' ∧ rt z' (dg (pj (N / 1000000000 ^ (i + 1)) (dl N i) j))) 9 ?_ ⟨z2, rfl, f2, by rw [pj_0 li]; exact r2⟩
      rintro j s hj ⟨z3, rfl, f3, r3⟩ B2 hB2
      simp only
      unfold wb_X12_putSum_51
      have s3 : tq_al z3 83 i = lN (dl N i) := by rw [fr_al f3 (by decide)]; exact hs i (by omega)
      by_cases j9 : j = 9
      · subst j9
        have e0 : lN (10 ^ 8 / 10 ^ 9) = lN 0 := rfl
        rw [e0]
        refine ⟨fun _ => ?_, fun q => absurd (show lN 0 ≤ (0 : Int64) by decide +kernel) q⟩
        unfold wc_X12_putSum_86
        intro v e
        rw [pj_9] at r3
        have e2 : dl N i + 1000000000 * (N / 1000000000 ^ (i + 1)) = N / 1000000000 ^ i := by omega
        rw [e2] at r3
        refine hB _ ⟨z3, ?_, f3, r3⟩
        rw [e]
        by_cases q : m + 1 < t
        · rw [if_pos q, i_m1 (by omega)]
          have : i - 1 = t - 1 - (m + 1) := by omega
          rw [this]
        · rw [if_neg q]
          have : i = 0 := by omega
          rw [this]; rfl
      · obtain ⟨p1, p2, p3, p4⟩ := p108 ⟨j, by omega⟩
        simp only at p1 p2 p3 p4
        rw [← p4] at hB2
        rw [p1] at hB2 ⊢
        rw [l_le0 (by omega)]
        refine ⟨fun q => by omega, fun _ => ⟨i_in (by omega) (by omega), ?_, ?_⟩⟩
        · rw [l_z (by omega)]; omega
        · have dlt : dl N i / 10 ^ (8 - j) < 9223372036854775808 := Nat.lt_of_le_of_lt (Nat.div_le_self _ _) (by omega)
          rw [i_cl (by omega), s3, pk_lDiv (by omega) p2 (by omega), l_10, pk_lRem dlt (by omega) (by omega), l_t32, show (48 : Int32) = nI 48 from rfl, i_add]
          have l3 := t360 _ (le9 j (by omega))
          refine sq_putSign (by omega) (by omega) r3 (fun z4 f4 r4 => ⟨rfl, fun v e => ?_⟩)
          refine hB2 (by omega) _ ⟨z4, ?_, fr_t f3 f4, ?_⟩
          · rw [e, pk_lDiv (by omega) (by omega) (by omega)]
          · rw [pj_s (by omega), dg_a ?_ (Nat.mod_lt _ (by omega))]
            · exact r4
            · have h1 : 1 * 1 ≤ N / 1000000000 ^ (i + 1) * 10 ^ j := Nat.mul_le_mul Pp (Nat.pow_pos (by omega))
              unfold pj; exact Nat.lt_of_lt_of_le (by omega : 0 < N / 1000000000 ^ (i + 1) * 10 ^ j) (Nat.le_add_right _ _)
    · rw [if_neg hmt]
      have : m = t := by omega
      subst this
      rw [Nat.sub_self, Nat.pow_zero, Nat.div_one] at r2
      refine ⟨fun _ => ?_, fun h1 => absurd (show (-1 : Int32) < 0 by decide +kernel) h1⟩
      unfold wc_X12_putSum_92
      rw [r2.1]
      exact k z2 f2 r2
  unfold wm_X12_putSum
  intro z1 e1
  have f1 : fr [(0, 3279), (2, 60)] z z1 := by rw [e1]; exact fr_sfi (by decide) fr_r
  have r1 : rt z1 [] := rt_0 (by rw [e1]; rfl)
  have s1 : ∀ i, i < 40 → tq_al z1 83 i = lN (dl N i) := fun i hi => by rw [fr_al f1 (by decide)]; exact hs i hi
  have top : ∀ t, t < 40 → N < 1000000000 ^ (t + 1) → (t = 0 ∨ dl N t ≠ 0) → wc_X12_putSum_29 Q (nI t) z1 := by
    intro t ht hlt hnz
    have dN : dl N t = N / 1000000000 ^ t := by
      unfold dl
      refine Nat.mod_eq_of_lt ?_
      rw [Nat.pow_succ] at hlt
      exact (Nat.div_lt_iff_lt_mul (Nat.pow_pos (by omega))).mpr (by rw [Nat.mul_comm]; exact hlt)
    have dlt := dl_lt N t
    unfold wc_X12_putSum_29
    rw [i_cl (by omega), s1 t ht]
    refine ⟨i_in (by omega) (by omega), ?_⟩
    have p40 : (1000000000 : Nat) < 10 ^ 40 := by decide +kernel
    refine sq_putDigits 40 (dl N t) z1 [] _ (by omega) (by omega) (by omega) (by show 0 + 40 < 600; omega) r1 (fun z2 f2 r2 => ⟨rfl, fun v e => ?_⟩)
    have ev : v = if 0 < t then nI (t - 1) else -1 := by
      rw [e]
      by_cases q : 0 < t
      · rw [if_pos q, i_1, pk_sub q]
      · have : t = 0 := by omega
        rw [if_neg q, this]; rfl
    rw [ev]
    refine rest t z2 ht (fun q => ?_) (fr_t f1 f2) (by rw [← dN]; exact r2)
    rw [← dN]; omega
  unfold wc_X12_putSum_8
  refine lp_inv (fun m s => s = (nI (39 - m), z1) ∧ N < 1000000000 ^ (39 - m + 1)) 39 ?_ ⟨rfl, hN⟩
  rintro m s hm ⟨rfl, hlt⟩ B hB
  simp only
  unfold wb_X12_putSum_8
  rw [i_0, i_le (by omega) (by omega), i_cl (by omega), s1 _ (by omega), l_z (Nat.lt_trans (dl_lt _ _) (by omega))]
  refine ⟨fun h1 => top _ (by omega) hlt (Or.inl (by omega)), fun h1 => ⟨i_in (by omega) (by omega), fun h2 => top _ (by omega) hlt (Or.inr h2), fun h2 v e => ?_⟩⟩
  rw [i_m1 (by omega)] at e
  have e3 : 39 - m - 1 = 39 - (m + 1) := by omega
  rw [e3] at e
  refine hB (by omega) _ ⟨by rw [e], ?_⟩
  have e4 : 39 - (m + 1) + 1 = 39 - m := by omega
  rw [e4]
  have h3 := Nat.div_add_mod N (1000000000 ^ (39 - m))
  have h4 : N / 1000000000 ^ (39 - m) = 0 := by
    have : dl N (39 - m) = N / 1000000000 ^ (39 - m) := by
      unfold dl
      refine Nat.mod_eq_of_lt ?_
      rw [Nat.pow_succ] at hlt
      exact (Nat.div_lt_iff_lt_mul (Nat.pow_pos (by omega))).mpr (by rw [Nat.mul_comm]; exact hlt)
    omega
  rw [h4, Nat.mul_zero, Nat.zero_add] at h3
  rw [← h3]
  exact Nat.mod_lt _ (Nat.pow_pos (by omega))
end RBIG
