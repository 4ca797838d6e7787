/-! ===== heaps: the reference's call ===== -/
theorem hchk_all {a b c : Nat} (ha1 : 1 ≤ a) (ha : a ≤ 8) (hb1 : 1 ≤ b) (hb : b ≤ 8) (hc1 : 1 ≤ c) (hc : c ≤ 8) : hchk a b c = true := by
  obtain ⟨b', rfl⟩ : ∃ b', b = b' + 1 := ⟨b - 1, by omega⟩
  obtain ⟨c', rfl⟩ : ∃ c', c = c' + 1 := ⟨c - 1, by omega⟩
  have e : a = 1 ∨ a = 2 ∨ a = 3 ∨ a = 4 ∨ a = 5 ∨ a = 6 ∨ a = 7 ∨ a = 8 := by omega
  rcases e with rfl | rfl | rfl | rfl | rfl | rfl | rfl | rfl
  · exact hchk_1 ⟨b', by omega⟩ ⟨c', by omega⟩
  · exact hchk_2 ⟨b', by omega⟩ ⟨c', by omega⟩
  · exact hchk_3 ⟨b', by omega⟩ ⟨c', by omega⟩
  · exact hchk_4 ⟨b', by omega⟩ ⟨c', by omega⟩
  · exact hchk_5 ⟨b', by omega⟩ ⟨c', by omega⟩
  · exact hchk_6 ⟨b', by omega⟩ ⟨c', by omega⟩
  · exact hchk_7 ⟨b', by omega⟩ ⟨c', by omega⟩
  · exact hchk_8 ⟨b', by omega⟩ ⟨c', by omega⟩
theorem hE2_t {c x i j : Nat} : hE2 c x i j = (ve (i + j + c + 1) x : Int) - ve (i + j + 1) x := by
  induction c with
  | zero =>
    show (0 : Int) = _
    rw [Nat.add_zero]; omega
  | succ c ih =>
    have e : hE2 (c + 1) x i j = hE2 c x i j + ((ve (i + j + c + 2) x : Int) - ve (i + j + c + 1) x) := rfl
    rw [e, ih]
    have : i + j + (c + 1) + 1 = i + j + c + 2 := by omega
    rw [this]; omega
theorem hE_s {a b c x : Nat} (ha : a ≤ 8) (hb : b ≤ 8) (hc : c ≤ 8) (hx : x < 24) : hE a b c x = (sP x c b a : Int) - sP x 0 b a := by
  have key : ∀ n, 0 < n → n < 24 → ve n x = vt x n := fun n h0 hn => (vt_ok ⟨n, hn⟩).elim (fun e => absurd e (by show ¬ n = 0; omega)) (fun e => e ⟨x, hx⟩)
  unfold hE sP
  rw [← fb_si_nat, ← fb_si_nat, ← fb_si_sub]
  refine fb_si_cong (fun i hi => ?_)
  rw [← fb_si_nat, ← fb_si_nat, ← fb_si_sub]
  refine fb_si_cong (fun j hj => ?_)
  have := hE2_t (c := c) (x := x) (i := i) (j := j)
  unfold hE2 at this
  rw [this, key _ (by omega) (by omega), key _ (by omega) (by omega), Nat.add_zero]
theorem hchk_E {a b c : Nat} (ha1 : 1 ≤ a) (ha : a ≤ 8) (hb1 : 1 ≤ b) (hb : b ≤ 8) (hc1 : 1 ≤ c) (hc : c ≤ 8) : (∀ p, p < 22 → 0 ≤ hE a b c (p + 2) ∧ hE a b c (p + 2) ≤ 1000) ∧ hpr (hE a b c) 22 = hps a b c := by
  have h := hchk_all ha1 ha hb1 hb hc1 hc
  unfold hchk at h
  rw [Bool.and_eq_true, List.all_eq_true, beq_iff_eq] at h
  obtain ⟨h1, h2⟩ := h
  have key : ∀ p, p < 22 → sP (p + 2) 0 b a ≤ sP (p + 2) c b a ∧ hq a b c (p + 2) ≤ 1000 := by
    intro p hp
    have := h1 p (List.mem_range.mpr hp)
    rw [Bool.and_eq_true] at this
    exact ⟨Nat.le_of_ble_eq_true this.1, Nat.le_of_ble_eq_true this.2⟩
  have e : ∀ p, p < 22 → hE a b c (p + 2) = ((hq a b c (p + 2) : Nat) : Int) := by
    intro p hp
    obtain ⟨k1, k2⟩ := key p hp
    rw [hE_s ha hb hc (by omega)]
    unfold hq
    omega
  refine ⟨fun p hp => by rw [e p hp]; have := (key p hp).2; omega, ?_⟩
  rw [← h2]
  have : ∀ p, p ≤ 22 → hpr (hE a b c) p = hprN a b c p := by
    intro p
    induction p with
    | zero => intro _; rfl
    | succ p ih =>
      intro hp
      show hpr (hE a b c) p * (p + 2) ^ (hE a b c (p + 2)).toNat = hprN a b c p * (p + 2) ^ hq a b c (p + 2)
      rw [ih (by omega), e p (by omega)]; rfl
  exact this 22 (Nat.le_refl _)
theorem hps_lt {a b c : Nat} (ha : a ≤ 8) (hb : b ≤ 8) (hc : c ≤ 8) : hps a b c < 1000000000 ^ 34 := by
  have d : ∀ j i n, hdJ i j n ≤ n := by
    intro j
    induction j with
    | zero => intro i n; exact Nat.le_refl _
    | succ j ih => intro i n; exact Nat.le_trans (Nat.div_le_self _ _) (ih i n)
  have d2 : ∀ i n, hdI b n i ≤ n := by
    intro i
    induction i with
    | zero => intro n; exact Nat.le_refl _
    | succ i ih => intro n; exact Nat.le_trans (d b i _) (ih n)
  have h1 := hpI_le (b := b) (c := c) hb hc a ha
  have h2 := hp_24 (k := b * a) (Nat.mul_le_mul hb ha)
  have h3 := d2 a (hpI b c a)
  refine Nat.lt_of_le_of_lt (Nat.le_trans h3 h1) (Nat.lt_trans h2 (by decide +kernel))
section RHEAPS2
variable {z : tq_S} {Q : tq_O → tq_S → Prop} {A B C : Int32}
def FHe : List (Nat × Nat) := [(0, 3264), (2, 84), (3, 83), (0, 3279), (2, 60)]
theorem sr_heaps (k0 : (∀ a b c, ¬ h3 A B C a b c) → ∀ z', fr [(0, 3264)] z z' → tq_fi z' 3264 = 1 → Q (.inl (some (.int 0))) z') (k1 : ∀ a b c, h3 A B C a b c → ∀ z', fr FHe z z' → tq_fi z' 3264 = 0 → rt z' (tn false (hps a b c)) → Q (.inl (some (.int (nI (tn false (hps a b c)).length)))) z') : wm_X12_heaps A B C z Q := by
  have key : ∀ x : Int32, fi (1 : Int32).toInt (8 : Int32).toInt x = true ↔ ∃ n : Nat, 1 ≤ n ∧ n ≤ 8 ∧ x = nI n := fun x => fi_ex (l := 1) (u := 8) (by omega) (by omega)
  have no : (∀ a b c, ¬ h3 A B C a b c) → wc_X12_heaps_31 Q A B C z := by
    intro h
    unfold wc_X12_heaps_31 wc_X12_heaps_36
    exact sq_isThrown (b := true) (a := 1) (fun z1 f1 e1 => ⟨_, rfl, fun q => absurd q (by decide +kernel), fun _ => k0 h z1 f1 e1⟩)
  unfold wm_X12_heaps
  refine sq_isIn ⟨_, rfl, fun h1 => no (fun a b c h => ?_), fun h1 => ?_⟩
  · rw [bi_0] at h1
    rw [(key A).mpr ⟨a, h.1, h.2.1, h.2.2.2.2.2.2.1⟩] at h1; cases h1
  refine sq_isIn ⟨_, rfl, fun h2 => no (fun a b c h => ?_), fun h2 => ?_⟩
  · rw [bi_0] at h2
    rw [(key B).mpr ⟨b, h.2.2.1, h.2.2.2.1, h.2.2.2.2.2.2.2.1⟩] at h2; cases h2
  refine sq_isIn ⟨_, rfl, fun h3 => ?_, fun h3 => no (fun a b c h => ?_)⟩
  rotate_left
  · rw [bi_0] at h3
    rw [(key C).mpr ⟨c, h.2.2.2.2.1, h.2.2.2.2.2.1, h.2.2.2.2.2.2.2.2⟩] at h3; cases h3
  rw [bi_n] at h1 h2 h3
  obtain ⟨a, a1, a2, a3⟩ := (key A).mp h1
  obtain ⟨b, b1, b2, b3⟩ := (key B).mp h2
  obtain ⟨c, c1, c2, c3⟩ := (key C).mp h3
  have k2 := k1 a b c ⟨a1, a2, b1, b2, c1, c2, a3, b3, c3⟩
  subst a3; subst b3; subst c3
  unfold wc_X12_heaps_36
  refine sq_isThrown (b := false) (a := 1) (fun z1 f1 e1 => ⟨_, rfl, fun _ => ?_, fun q => absurd rfl q⟩)
  have f1 : fr FHe z z1 := fr_m (by decide) f1
  have e1 : tq_fi z1 3264 = 0 := e1
  -- what comes behind the exponents
  have last : ∀ z2, fr FHe z z2 → tq_fi z2 3264 = 0 → (∀ x, x < 24 → tq_ai z2 84 x = Int32.ofInt (hE a b c x)) → wc_X12_heaps_144 Q z2 := by
    intro z2 f2 e2 a2'
    obtain ⟨x1, x2⟩ := hchk_E a1 a2 b1 b2 c1 c2
    unfold wc_X12_heaps_144 wc_X12_heaps_147
    refine lp_inv (fun i s => ∃ z', s = (nI i, z') ∧ fr [(3, 83)] z2 z' ∧ ∀ y, y < i → tq_al z' 83 y = lN (dl 1 y)) 40 ?_ ⟨z2, rfl, fr_r, fun y hy => by omega⟩
    rintro i s hi ⟨z3, rfl, f3, b3⟩ B1 hB1
    simp only
    unfold wb_X12_heaps_147
    rw [i_40, i_le (by omega) (by omega)]
    refine ⟨fun h4 => ?_, fun h4 => ?_⟩
    · unfold wc_X12_heaps_177
      have lt := hps_lt a2 b2 c2
      rw [← x2] at lt k2
      refine sq_heapsP (E := hE a b c) x1 lt (fun p hp => by rw [fr_ai f3 (by decide)]; exact a2' _ (by omega)) (fun y hy => b3 y (by omega)) (fun z4 f4 t4 => k2 z4 (fr_t f2 (fr_t (fr_m (by decide) f3) (fr_m (by decide) f4))) ?_ t4)
      rw [fr_fi f4 (by decide), fr_fi f3 (by decide)]; exact e2
    · have fin : ∀ v : Int64, v = lN (dl 1 i) → wc_X12_heaps_170 (fun b4 z => B1 (b4, z)) Q (nI i) v (nI i) z3 := by
        intro v ev
        unfold wc_X12_heaps_170
        refine ⟨i_in (by omega) (by omega), fun z4 e4 v4 ev4 => ?_⟩
        rw [i_1, i_add] at ev4
        refine hB1 (by omega) _ ⟨z4, by rw [ev4], by rw [e4]; exact fr_sal (by decide) f3, fun y hy => ?_⟩
        rw [e4, rw_ale, rw_updL, i_cl (by omega)]
        by_cases q : y = i
        · rw [if_pos q, ev, q]
        · rw [if_neg q]; exact b3 y (by omega)
      rw [i_0, i_eq (by omega) (by omega)]
      refine ⟨fun q => fin _ ?_, fun q => fin _ ?_⟩
      · have : dl 1 i = 0 := dl_hi (by rw [nd_s (by omega), (by decide : 1 / 1000000000 = 0), nd_0]; omega)
        rw [this]; rfl
      · rw [q]; rfl
  -- the exponents
  have expo : ∀ z2, fr FHe z z2 → tq_fi z2 3264 = 0 → (∀ x, x < 24 → tq_ai z2 84 x = 0) → wc_X12_heaps_69 Q (nI a) (nI b) (nI c) z2 := by
    intro z2 f2 e2 z20
    unfold wc_X12_heaps_69 wc_X12_heaps_72
    refine lp_inv (fun i s => ∃ z', s = (nI (i + 1), z') ∧ fr FHe z z' ∧ tq_fi z' 3264 = 0 ∧ ∀ x, x < 24 → tq_ai z' 84 x = Int32.ofInt (hE i b c x)) a ?_ ⟨z2, rfl, f2, e2, fun x hx => by rw [z20 x hx]; rfl⟩
    rintro i s hi ⟨z3, rfl, f3, e3, b3⟩ B1 hB1
    simp only
    unfold wb_X12_heaps_72
    rw [i_lt (by omega) (by omega)]
    refine ⟨fun h4 => ?_, fun h4 => ?_⟩
    · have : i = a := by omega
      subst this
      exact last z3 f3 e3 b3
    · have hB1 := hB1 (by omega)
      unfold wc_X12_heaps_81
      refine lp_inv (fun j s => ∃ z', s = (nI (j + 1), z') ∧ fr FHe z z' ∧ tq_fi z' 3264 = 0 ∧ ∀ x, x < 24 → tq_ai z' 84 x = Int32.ofInt (hE i b c x + fb_si (fun j => hE2 c x i j) j)) b ?_ ⟨z3, rfl, f3, e3, fun x hx => by rw [b3 x hx]; show _ = Int32.ofInt (hE i b c x + 0); rw [Int.add_zero]⟩
      rintro j s hj ⟨z4, rfl, f4, e4, b4⟩ B2 hB2
      simp only
      unfold wb_X12_heaps_81
      rw [i_lt (by omega) (by omega)]
      refine ⟨fun h5 => ?_, fun h5 => ?_⟩
      · have : j = b := by omega
        subst this
        unfold wc_X12_heaps_138
        intro v ev
        rw [i_1, i_add] at ev
        exact hB1 _ ⟨z4, by rw [ev], f4, e4, b4⟩
      · have hB2 := hB2 (by omega)
        unfold wc_X12_heaps_90
        refine lp_inv (fun m s => ∃ z', s = (nI (m + 1), z') ∧ fr FHe z z' ∧ tq_fi z' 3264 = 0 ∧ ∀ x, x < 24 → tq_ai z' 84 x = Int32.ofInt (hE i b c x + fb_si (fun j => hE2 c x i j) j + hE2 m x i j)) c ?_ ⟨z4, rfl, f4, e4, fun x hx => by rw [b4 x hx]; show _ = Int32.ofInt (hE i b c x + fb_si (fun j => hE2 c x i j) j + 0); rw [Int.add_zero]⟩
        rintro m s hm ⟨z5, rfl, f5, e5, b5⟩ B3 hB3
        simp only
        unfold wb_X12_heaps_90
        rw [i_lt (by omega) (by omega)]
        refine ⟨fun h6 => ?_, fun h6 => ?_⟩
        · have : m = c := by omega
          subst this
          unfold wc_X12_heaps_132
          intro v ev
          rw [i_1, i_add] at ev
          exact hB2 _ ⟨z5, by rw [ev], f5, e5, fun x hx => by rw [b5 x hx, Int.add_assoc]; rfl⟩
        · have g1 : nI (i + 1) + nI (j + 1) + nI (m + 1) - (1 : Int32) = nI (i + j + m + 2) := by
            rw [i_add, i_add, i_1, pk_sub (by omega)]; congr 1; omega
          have g2 : nI (i + 1) + nI (j + 1) + nI (m + 1) - (2 : Int32) = nI (i + j + m + 1) := by
            rw [i_add, i_add, i_2, pk_sub (by omega)]; congr 1; omega
          rw [g1, g2]
          refine sq_factors (by omega) (by omega) (fun z6 f6 b6 => ⟨rfl, ?_⟩)
          refine sq_factors (by omega) (by omega) (fun z7 f7 b7 => ⟨rfl, fun v ev => ?_⟩)
          rw [i_1, i_add] at ev
          refine hB3 (by omega) _ ⟨z7, by rw [ev], fr_t f5 (fr_t (fr_m (by decide) f6) (fr_m (by decide) f7)), ?_, fun x hx => ?_⟩
          · rw [fr_fi f7 (by decide), fr_fi f6 (by decide)]; exact e5
          · have st : hE2 (m + 1) x i j = hE2 m x i j + ((ve (i + j + m + 2) x : Int) - ve (i + j + m + 1) x) := rfl
            rw [b7, b6, b5 x hx, st, ← Int.add_assoc, Int32.ofInt_add _ ((ve (i + j + m + 2) x : Int) - _), Int32.ofInt_sub, i_ofN, i_ofN, Int32.one_mul, Int32.neg_mul, Int32.one_mul, Int32.sub_eq_add_neg, Int32.add_assoc]
  unfold wc_X12_heaps_48
  refine lp_inv (fun i s => ∃ z', s = (nI i, z') ∧ fr FHe z z' ∧ tq_fi z' 3264 = 0 ∧ ∀ x, x < i → tq_ai z' 84 x = 0) 24 ?_ ⟨z1, rfl, f1, e1, fun x hx => by omega⟩
  rintro i s hi ⟨z2, rfl, f2, e2, b2'⟩ B1 hB1
  simp only
  unfold wb_X12_heaps_48
  rw [i_24, i_le (by omega) (by omega)]
  refine ⟨fun h4 => expo z2 f2 e2 (fun x hx => b2' x (by omega)), fun h4 => ⟨i_in (by omega) (by omega), fun z3 e3 v ev => ?_⟩⟩
  rw [i_1, i_add] at ev
  refine hB1 (by omega) _ ⟨z3, by rw [ev], by rw [e3]; exact fr_sai (by decide) f2, by rw [e3]; exact e2, fun x hx => ?_⟩
  rw [e3, rw_aie, rw_upd, i_cl (by omega)]
  by_cases q : x = i
  · rw [if_pos q]
  · rw [if_neg q]; exact b2' x (by omega)
theorem sr_hexagon (k0 : (∀ a b c, ¬ h3 A B C a b c) → ∀ z', fr [(0, 3264)] z z' → tq_fi z' 3264 = 1 → Q (.inl (some (.int 0))) z') (k1 : ∀ a b c, h3 A B C a b c → ∀ z', fr FHe z z' → tq_fi z' 3264 = 0 → rt z' (tn false (hps a b c)) → Q (.inl (some (.int (nI (tn false (hps a b c)).length)))) z') : wm_X12_hexagon A B C z Q := by
  unfold wm_X12_hexagon
  exact sr_heaps (fun h z' f e => ⟨_, rfl, k0 h z' f e⟩) (fun a b c h z' f e t => ⟨_, rfl, k1 a b c h z' f e t⟩)
end RHEAPS2
