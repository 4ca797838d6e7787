/-! ===== heaps: the reference's factors ===== -/
def fcr : Nat → Nat → Nat → Nat → Nat
  | 0, _, _, _ => 0
  | f + 1, p, r, x => if r < p then 0 else if r % p = 0 then (if x = p then 1 else 0) + fcr f p (r / p) x else fcr f (p + 1) r x
def ve (n x : Nat) : Nat := fcr 60 2 n x
theorem fcr_0 {f p r x : Nat} (h : r < p) : fcr f p r x = 0 := by
  cases f with
  | zero => rfl
  | succ f =>
    show (if r < p then 0 else _) = 0
    rw [if_pos h]
theorem fcr_d {f p r x : Nat} (h : ¬ r < p) (h2 : r % p = 0) : fcr (f + 1) p r x = (if x = p then 1 else 0) + fcr f p (r / p) x := by
  show (if r < p then 0 else if r % p = 0 then (if x = p then 1 else 0) + fcr f p (r / p) x else fcr f (p + 1) r x) = _
  rw [if_neg h, if_pos h2]
theorem fcr_n {f p r x : Nat} (h : ¬ r < p) (h2 : ¬ r % p = 0) : fcr (f + 1) p r x = fcr f (p + 1) r x := by
  show (if r < p then 0 else if r % p = 0 then (if x = p then 1 else 0) + fcr f p (r / p) x else fcr f (p + 1) r x) = _
  rw [if_neg h, if_neg h2]
def hE (a b c x : Nat) : Int := fb_si (fun i => fb_si (fun j => fb_si (fun k => (ve (i + j + k + 2) x : Int) - ve (i + j + k + 1) x) c) b) a
def hE1 (b c x i : Nat) : Int := fb_si (fun j => fb_si (fun k => (ve (i + j + k + 2) x : Int) - ve (i + j + k + 1) x) c) b
def hE2 (c x i j : Nat) : Int := fb_si (fun k => (ve (i + j + k + 2) x : Int) - ve (i + j + k + 1) x) c
/-- the product of the powers -/
def hpr (E : Nat → Int) : Nat → Nat
  | 0 => 1
  | p + 1 => hpr E p * (p + 2) ^ (E (p + 2)).toNat
theorem hpr_m (E : Nat → Int) (p : Nat) : ∀ k, hpr E p ≤ hpr E (p + k)
  | 0 => Nat.le_refl _
  | k + 1 => by
    have h1 := hpr_m E p k
    show _ ≤ hpr E (p + k) * (p + k + 2) ^ (E (p + k + 2)).toNat
    exact Nat.le_trans h1 (Nat.le_mul_of_pos_right _ (Nat.pow_pos (by omega)))
theorem i_ofN (n : Nat) : Int32.ofInt (n : Int) = nI n := rfl
section RHEAPS
variable {z : tq_S} {Q : tq_O → tq_S → Prop} {A B C : Int32}
theorem sq_factors {n : Nat} {mo : Int32} (h1 : 1 ≤ n) (hn : n ≤ 23) (k : ∀ z', fr [(2, 84)] z z' → (∀ x, tq_ai z' 84 x = tq_ai z 84 x + mo * nI (ve n x)) → Q (.inl none) z') : wm_X12_factors (nI n) mo z Q := by
  unfold wm_X12_factors wc_X12_factors_5
  refine lp_inv (fun m s => ∃ f r z' D, s = (nI r, nI (m + 2), z') ∧ 1 ≤ r ∧ r ≤ 23 ∧ r + 30 ≤ f + (m + 2) ∧ fr [(2, 84)] z z' ∧ (∀ x, tq_ai z' 84 x = tq_ai z 84 x + mo * nI (D x)) ∧ ∀ x, D x + fcr f (m + 2) r x = ve n x) 30 ?_ ⟨60, n, z, fun _ => 0, rfl, h1, hn, by omega, fr_r, fun x => by show _ = _ + mo * 0; simp, fun x => Nat.zero_add _⟩
  rintro m s hm ⟨f, r, z1, D, rfl, r1, r23, hf, f1, a1, a2⟩ B hB
  simp only
  unfold wb_X12_factors_5
  rw [i_lt (by omega) (by omega)]
  refine ⟨fun h2 => ?_, fun h2 => ?_⟩
  · refine k z1 f1 (fun x => ?_)
    have := a2 x
    rw [fcr_0 h2, Nat.add_zero] at this
    rw [a1, this]
  · unfold wc_X12_factors_11
    refine tq_lp_I (fun s : Int32 × tq_S => ∃ (f r : Nat) (z' : tq_S) (D : Nat → Nat), s = (nI r, z') ∧ 1 ≤ r ∧ r ≤ 23 ∧ r + 30 ≤ f + (m + 2) ∧ fr [(2, 84)] z z' ∧ (∀ x, tq_ai z' 84 x = tq_ai z 84 x + mo * nI (D x)) ∧ ∀ x, D x + fcr f (m + 2) r x = ve n x) (fun s : Int32 × tq_S => Int32.toNatClampNeg s.1) ?_ ⟨f, r, z1, D, rfl, r1, r23, hf, f1, a1, a2⟩
    rintro s ⟨f, r, z2, D, rfl, r1, r23, hf, f2, a1, a2⟩ B2 hB2
    simp only
    simp only at hB2
    rw [i_cl (by omega)] at hB2
    unfold wb_X12_factors_11
    have hm30 : m < 30 := by omega
    have hml : r % (m + 2) ≤ r := Nat.mod_le _ _
    rw [pk_rem (by omega) (by omega) (by omega)]
    refine ⟨by rw [i_0, i_eq (by omega) (by omega)]; omega, fun h3 => ?_, fun h3 => ?_⟩
    · rw [i_0, i_eq (by omega) (by omega)] at h3
      unfold wc_X12_factors_37
      intro v e
      rw [i_1, i_add] at e
      by_cases q : r < m + 2
      · refine hB hm30 _ ⟨f, r, z2, D, by rw [e], r1, r23, by omega, f2, a1, fun x => ?_⟩
        rw [fcr_0 (by omega)]
        have := a2 x
        rw [fcr_0 q] at this
        exact this
      · obtain ⟨g, hg⟩ : ∃ g, f = g + 1 := ⟨f - 1, by omega⟩
        refine hB hm30 _ ⟨g, r, z2, D, by rw [e], r1, r23, by omega, f2, a1, fun x => ?_⟩
        have := a2 x
        rw [hg, fcr_n q h3] at this
        exact this
    · rw [i_0, i_eq (by omega) (by omega)] at h3
      have hge : m + 2 ≤ r := by
        refine Classical.byContradiction fun q => ?_
        rw [Nat.mod_eq_of_lt (by omega)] at h3
        omega
      have hlt : r / (m + 2) < r := Nat.div_lt_self (by omega) (by omega)
      have hpos : 0 < r / (m + 2) := Nat.div_pos hge (by omega)
      obtain ⟨g, hg⟩ : ∃ g, f = g + 1 := ⟨f - 1, by omega⟩
      refine ⟨i_in (by omega) (by omega), i_in (by omega) (by omega), fun z3 e3 => ⟨by rw [i_0, i_eq (by omega) (by omega)]; omega, fun v e => ?_⟩⟩
      rw [pk_div (by omega) (by omega) (by omega)] at e
      have e6 : ∀ x, tq_ai z3 84 x = if x = m + 2 then tq_ai z2 84 (m + 2) + mo else tq_ai z2 84 x := by
        intro x; rw [e3, rw_aie, rw_upd, i_cl (by omega)]
      refine hB2 _ ⟨g, r / (m + 2), z3, fun x => D x + (if x = m + 2 then 1 else 0), by rw [e], hpos, by omega, by omega, by rw [e3]; exact fr_sai (by decide) f2, fun x => ?_, fun x => ?_⟩ ?_
      · rw [e6]
        by_cases q : x = m + 2
        · rw [if_pos q, q, a1]
          show _ = _ + mo * nI (D (m + 2) + (if m + 2 = m + 2 then 1 else 0))
          rw [if_pos rfl, ← i_add, Int32.mul_add, Int32.add_assoc]
          congr 2
          show mo = mo * 1
          rw [Int32.mul_one]
        · rw [if_neg q, a1]
          show _ = _ + mo * nI (D x + (if x = m + 2 then 1 else 0))
          rw [if_neg q, Nat.add_zero]
      · have := a2 x
        rw [hg, fcr_d (by omega) h3] at this
        show D x + (if x = m + 2 then 1 else 0) + fcr g (m + 2) (r / (m + 2)) x = _
        omega
      · rw [e, i_cl (by omega)]; exact hlt
/-- a power of a number is multiplied in -/
theorem sq_heapsP {E : Nat → Int} (hE0 : ∀ p, p < 22 → 0 ≤ E (p + 2) ∧ E (p + 2) ≤ 1000) (hb : hpr E 22 < 1000000000 ^ 34) (ha : ∀ p, p < 22 → tq_ai z 84 (p + 2) = Int32.ofInt (E (p + 2))) (hs : ∀ i, i < 40 → tq_al z 83 i = lN (dl 1 i)) (k : ∀ z', fr [(3, 83), (0, 3279), (2, 60)] z z' → rt z' (tn false (hpr E 22)) → Q (.inl (some (.int (nI (tn false (hpr E 22)).length)))) z') : wc_X12_heaps_180 Q 2 z := by
  have p34 : (1000000000 : Nat) ^ 34 < 1000000000 ^ 40 := by decide +kernel
  unfold wc_X12_heaps_180
  refine lp_inv (fun p s => ∃ z', s = (nI (p + 2), z') ∧ fr [(3, 83), (0, 3279), (2, 60)] z z' ∧ ∀ i, i < 40 → tq_al z' 83 i = lN (dl (hpr E p) i)) 22 ?_ ⟨z, rfl, fr_r, hs⟩
  rintro p s hp ⟨z1, rfl, f1, a1⟩ B hB
  simp only
  unfold wb_X12_heaps_180
  rw [i_24, i_le (by omega) (by omega)]
  refine ⟨fun h1 => ?_, fun h1 => ?_⟩
  · have : p = 22 := by omega
    subst this
    unfold wc_X12_heaps_247
    refine sq_putSum (Nat.lt_trans hb p34) a1 (fun z2 f2 t2 => ⟨_, rfl, k z2 (fr_t f1 (fr_m (by decide) f2)) t2⟩)
  · have hp22 : p < 22 := by omega
    have hB := hB hp22
    obtain ⟨e0, e1⟩ := hE0 p hp22
    obtain ⟨e, he⟩ : ∃ e : Nat, E (p + 2) = (e : Int) := ⟨(E (p + 2)).toNat, by omega⟩
    have hpp : hpr E (p + 1) = hpr E p * (p + 2) ^ e := by
      show hpr E p * (p + 2) ^ (E (p + 2)).toNat = _
      rw [he]; rfl
    have lim : ∀ j, j ≤ e → hpr E p * (p + 2) ^ j < 1000000000 ^ 34 := by
      intro j hj
      refine Nat.lt_of_le_of_lt ?_ hb
      refine Nat.le_trans (Nat.mul_le_mul_left _ (Nat.pow_le_pow_right (by omega) hj)) ?_
      rw [← hpp]
      have := hpr_m E (p + 1) (22 - (p + 1))
      have e2 : p + 1 + (22 - (p + 1)) = 22 := by omega
      rw [e2] at this; exact this
    unfold wc_X12_heaps_190
    refine lp_inv (fun j s => ∃ z', s = (nI j, z') ∧ fr [(3, 83), (0, 3279), (2, 60)] z z' ∧ ∀ i, i < 40 → tq_al z' 83 i = lN (dl (hpr E p * (p + 2) ^ j) i)) e ?_ ⟨z1, rfl, f1, by rw [Nat.pow_zero, Nat.mul_one]; exact a1⟩
    rintro j s hj ⟨z2, rfl, f2, a2⟩ B2 hB2
    simp only
    have a84 : tq_ai z2 84 (p + 2) = nI e := by rw [fr_ai f2 (by decide), ha p hp22, he]; rfl
    unfold wb_X12_heaps_190
    rw [i_cl (by omega), a84]
    refine ⟨i_in (by omega) (by omega), ?_⟩
    rw [i_le (by omega) (by omega)]
    refine ⟨fun h2 => ?_, fun h2 => ?_⟩
    · have : j = e := by omega
      subst this
      unfold wc_X12_heaps_241
      intro v ev
      rw [i_1, i_add] at ev
      exact hB _ ⟨z2, by rw [ev], f2, by rw [hpp]; exact a2⟩
    · have hB2 := hB2 (by omega)
      generalize hN : hpr E p * (p + 2) ^ j = N at a2
      have hN2 : hpr E p * (p + 2) ^ (j + 1) = N * (p + 2) := by rw [Nat.pow_succ, ← Nat.mul_assoc, hN]
      have lim2 := lim (j + 1) (by omega)
      rw [hN2] at hB2 lim2
      unfold wc_X12_heaps_205
      refine lp_inv (fun i s => ∃ z', s = (nI i, z') ∧ fr [(3, 83), (0, 3279), (2, 60)] z z' ∧ (∀ y, y < i → tq_al z' 83 y = lN (dl N y * (p + 2))) ∧ ∀ y, i ≤ y → y < 40 → tq_al z' 83 y = lN (dl N y)) 40 ?_ ⟨z2, rfl, f2, fun y hy => by omega, fun y _ hy => a2 y hy⟩
      rintro i s hi ⟨z3, rfl, f3, b1, b2⟩ B3 hB3
      simp only
      unfold wb_X12_heaps_205
      rw [i_40, i_le (by omega) (by omega)]
      refine ⟨fun h3 => ?_, fun h3 => ⟨i_in (by omega) (by omega), i_in (by omega) (by omega), fun z4 e4 v ev => ?_⟩⟩
      · unfold wc_X12_heaps_231
        refine sq_carry (W := N * (p + 2)) (s := fun y => ((dl N y * (p + 2) : Nat) : Int)) (q := fun y => ((N / 1000000000 ^ y * (p + 2) : Nat) : Int)) (by rw [Nat.pow_zero, Nat.div_one]) (fun y hy => ?_) (fun y hy => ?_) (fun y hy => ?_) (fun z4 f4 c4 => ⟨rfl, fun v ev => ?_⟩)
        · have d1 := dl_div N y
          show ((N / 1000000000 ^ y * (p + 2) : Nat) : Int) = 1000000000 * ((N / 1000000000 ^ (y + 1) * (p + 2) : Nat) : Int) + ((dl N y * (p + 2) : Nat) : Int)
          rw [d1, Nat.add_mul, Nat.mul_assoc]
          omega
        · rw [b1 y (by omega)]
          refine pk_lT ?_
          have := dl_lt N y
          have h5 : dl N y * (p + 2) ≤ 1000000000 * 24 := Nat.mul_le_mul (by omega) (by omega)
          omega
        · have := dl_lt N y
          have h5 : dl N y * (p + 2) ≤ 1000000000 * 24 := Nat.mul_le_mul (by omega) (by omega)
          show -1000000000000 ≤ ((dl N y * (p + 2) : Nat) : Int) ∧ ((dl N y * (p + 2) : Nat) : Int) ≤ 1000000000000
          omega
        · rw [i_1, i_add] at ev
          exact hB2 _ ⟨z4, by rw [ev], fr_t f3 (fr_m (by decide) f4), c4⟩
      · rw [i_1, i_add] at ev
        have e6 : ∀ y, tq_al z4 83 y = if y = i then lN (dl N i * (p + 2)) else tq_al z3 83 y := by
          intro y
          rw [e4, rw_ale, rw_updL, i_cl (by omega), b2 i (Nat.le_refl _) (by omega), i_to (by omega), l_mul]
        refine hB3 (by omega) _ ⟨z4, by rw [ev], by rw [e4]; exact fr_sal (by decide) f3, fun y hy => ?_, fun y h4 h5 => ?_⟩
        · rw [e6]
          by_cases q : y = i
          · rw [if_pos q, q]
          · rw [if_neg q]; exact b1 y (by omega)
        · rw [e6, if_neg (by omega)]; exact b2 y (by omega) h5
end RHEAPS
