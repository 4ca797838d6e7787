/-! ===== the hexagon: the class's call ===== -/
theorem hx_E {b c : Nat} (hb1 : 1 ≤ b) (hb : b ≤ 8) (hc1 : 1 ≤ c) (hc : c ≤ 8) {p : Nat} (hp : p = 2147483647 ∨ p = 2147483629 ∨ p = 2147483587) : ∀ j, j < 8 → hR p b c j j j ≠ 0 ∧ hS p b c (j + 1) = hps (j + 1) b c % p := by
  obtain ⟨b', rfl⟩ : ∃ b', b = b' + 1 := ⟨b - 1, by omega⟩
  obtain ⟨c', rfl⟩ : ∃ c', c = c' + 1 := ⟨c - 1, by omega⟩
  have h : hxc p (b' + 1) (c' + 1) = true := by
    rcases hp with rfl | rfl | rfl
    · exact hxc_1 ⟨b', by omega⟩ ⟨c', by omega⟩
    · exact hxc_2 ⟨b', by omega⟩ ⟨c', by omega⟩
    · exact hxc_3 ⟨b', by omega⟩ ⟨c', by omega⟩
  exact fun j hj => hgo_s (by omega) (by omega) 8 0 (by omega) h j (by omega) hj
section HEX
variable {z : tq_S} {Q : tq_O → tq_S → Prop} {A B C : Int32}
theorem hM0_lt {b c r x : Nat} (hb : b ≤ 8) (hc : c ≤ 8) : hM0 b c r x ≤ 12870 := by
  unfold hM0
  split
  · omega
  · split
    · omega
    · exact chl_b ⟨b + c, by omega⟩ ⟨b + x - r, by omega⟩
theorem sq_choose {b c r x : Nat} (hb : b ≤ 8) (hc : c ≤ 8) (hr : r < 8) (hx : x < 8) (k : Q (.inl (some (.long (lN (hM0 b c r x))))) z) : wm_X3_choose (nI b + nI c) (nI b - nI r + nI x) z Q := by
  have e0 : nI b + nI c = nI (b + c) := i_add b c
  rw [e0]
  unfold hM0 at k
  unfold wm_X3_choose
  have tb : (nI b).toInt = (b : Int) := i_ti (by omega)
  have tr : (nI r).toInt = (r : Int) := i_ti (by omega)
  have tx : (nI x).toInt = (x : Int) := i_ti (by omega)
  have t1 : (nI b - nI r).toInt = (b : Int) - r := by rw [nu_sub (by rw [tb, tr]; omega) (by rw [tb, tr]; omega), tb, tr]
  have t2 : (nI b - nI r + nI x).toInt = (b : Int) - r + x := by rw [nu_add (by rw [t1, tx]; omega) (by rw [t1, tx]; omega), t1, tx]
  by_cases q : b + x < r
  · rw [if_pos q] at k
    refine ⟨fun _ => k, fun h => absurd ?_ h⟩
    rw [nu_lt, t2, i_z]; omega
  · rw [if_neg q] at k
    have e1 : nI b - nI r + nI x = nI (b + x - r) := by
      rw [nu_eq, t2, i_ti (by omega)]; omega
    rw [e1]
    refine ⟨fun h => absurd h (i_n0 (by omega)), fun _ => ?_⟩
    rw [i_le (by omega) (by omega)]
    by_cases q2 : b + c < b + x - r
    · rw [if_pos q2] at k
      exact ⟨fun h => absurd h (by omega), fun _ => k⟩
    · rw [if_neg q2] at k
      refine ⟨fun _ => ?_, fun h => absurd (by omega) h⟩
      unfold wc_X3_choose_16
      refine lp_for (fun i => (lN (chl (b + c) i), nI i, z)) (b + x - r) ?_ rfl
      intro i hi B hB
      simp only
      unfold wb_X3_choose_16
      rw [i_le (by omega) (by omega)]
      refine ⟨fun h1 => ?_, fun h1 => ?_⟩
      · have : i = b + x - r := by omega
        rw [this]; exact k
      · have cb := chl_b ⟨b + c, by omega⟩ ⟨i, by omega⟩
        simp only at cb
        have mb : chl (b + c) i * (b + c - i) ≤ 12870 * 16 := Nat.mul_le_mul cb (by omega)
        rw [i_1, i_add, i_to (by omega), pk_sub (by omega), i_to (by omega), l_mul, pk_lDiv (by omega) (by omega) (by omega)]
        refine ⟨by rw [l_z (by omega)]; omega, fun v1 e1 v2 e2 => ?_⟩
        rw [e1, e2]
        exact hB (by omega)
/-! remainders put together -/
def P1 : Nat := 2147483647
def P2 : Nat := 2147483629
def P3 : Nat := 2147483587
theorem pI12 : inv 2147483647 2147483629 * 2147483647 % 2147483629 = 1 := by
  rw [← pwt_i (by omega) (by omega)]; decide +kernel
theorem pI13 : inv 2147483647 2147483587 * 2147483647 % 2147483587 = 1 := by
  rw [← pwt_i (by omega) (by omega)]; decide +kernel
theorem pI23 : inv 2147483629 2147483587 * 2147483629 % 2147483587 = 1 := by
  rw [← pwt_i (by omega) (by omega)]; decide +kernel
/-- one step of Garner's: the quotient's remainder -/
theorem ga_s {D a p v : Nat} {x : Nat} (hp : 0 < p) (hv : v * a % p = 1) (hx : (x : Int) % p = ((D : Int) - (D % a : Nat)) % p) : x * v % p = D / a % p := by
  have h1 : (D : Int) - (D % a : Nat) = ((D / a * a : Nat) : Int) := by
    have := Nat.div_add_mod D a
    rw [Nat.mul_comm] at this
    omega
  rw [h1] at hx
  have h2 : x % p = D / a * a % p := by
    have h3 : ((x % p : Nat) : Int) = ((D / a * a % p : Nat) : Int) := by
      rw [Int.natCast_emod, Int.natCast_emod]; exact hx
    exact Int.ofNat.inj h3
  rw [Nat.mul_mod, h2, ← Nat.mul_mod, Nat.mul_assoc, Nat.mul_comm a v, Nat.mul_mod, hv, Nat.mul_one, Nat.mod_mod]
theorem dm_v {a b p : Nat} (ha : a < 4611686018427387904) (hb : b < 4611686018427387904) (hp : 0 < p) : ((dm (lN a - lN b) p : Nat) : Int) = ((a : Int) - b) % p := by
  unfold dm
  have ta : (lN a).toInt = (a : Int) := pk_lT (by omega)
  have tb : (lN b).toInt = (b : Int) := pk_lT (by omega)
  rw [fb_subL (by rw [ta, tb]; omega) (by rw [ta, tb]; omega), ta, tb]
  have := Int.emod_nonneg ((a : Int) - b) (show (p : Int) ≠ 0 by omega)
  omega
theorem sq_second {D : Nat} (h0 : tq_al z 18 0 = lN (D % 2147483647)) (h1 : tq_al z 18 1 = lN (D % 2147483629)) (k : Q (.inl (some (.long (lN (D / 2147483647 % 2147483629))))) z) : wm_X3_secondDigit z Q := by
  have m1 : D % 2147483647 < 2147483647 := Nat.mod_lt _ (by omega)
  have m2 : D % 2147483629 < 2147483629 := Nat.mod_lt _ (by omega)
  unfold wm_X3_secondDigit
  have c1 : Int32.toNatClampNeg 1 = 1 := rfl
  have c0 : Int32.toNatClampNeg 0 = 0 := rfl
  rw [c1, c0, h0, h1, show (2147483629 : Int64) = lN 2147483629 from rfl, show (2147483647 : Int64) = lN 2147483647 from rfl]
  refine sp_fmod (by omega) (by omega) ⟨_, rfl, ?_⟩
  have dl1 := dm_lt (a := lN (D % 2147483629) - lN (D % 2147483647)) (t := 2147483629) (by omega)
  have dv := dm_v (a := D % 2147483629) (b := D % 2147483647) (p := 2147483629) (by omega) (by omega) (by omega)
  generalize dm (lN (D % 2147483629) - lN (D % 2147483647)) 2147483629 = x at dl1 dv
  refine sq_inverse (by omega) (by omega) (by omega) ⟨_, rfl, ?_⟩
  have iv := inv_lt (x := 2147483647) (p := 2147483629) (by omega)
  have mb : x * inv 2147483647 2147483629 < 9223372036854775808 := by
    have : x * inv 2147483647 2147483629 ≤ 2147483647 * 2147483647 := Nat.mul_le_mul (by omega) (by omega)
    omega
  dsimp only
  rw [l_mul, pk_lRem mb (by omega) (by omega), ga_s (D := D) (by omega) pI12 (by rw [dv]; omega)]
  exact k
theorem sq_third {D : Nat} (h0 : tq_al z 18 0 = lN (D % 2147483647)) (h1 : tq_al z 18 1 = lN (D % 2147483629)) (h2 : tq_al z 18 2 = lN (D % 2147483587)) (k : Q (.inl (some (.long (lN (D / 2147483647 / 2147483629 % 2147483587))))) z) : wm_X3_thirdDigit z Q := by
  have m1 : D % 2147483647 < 2147483647 := Nat.mod_lt _ (by omega)
  have m3 : D % 2147483587 < 2147483587 := Nat.mod_lt _ (by omega)
  have m2 : D / 2147483647 % 2147483629 < 2147483629 := Nat.mod_lt _ (by omega)
  unfold wm_X3_thirdDigit
  refine sq_second h0 h1 ⟨_, rfl, ?_⟩
  have c2 : Int32.toNatClampNeg 2 = 2 := rfl
  have c0 : Int32.toNatClampNeg 0 = 0 := rfl
  dsimp only
  rw [c2, c0, h0, h2, show (2147483629 : Int64) = lN 2147483629 from rfl, show (2147483647 : Int64) = lN 2147483647 from rfl, show (2147483587 : Int64) = lN 2147483587 from rfl]
  refine sp_fmod (by omega) (by omega) ⟨_, rfl, ?_⟩
  have dl1 := dm_lt (a := lN (D % 2147483587) - lN (D % 2147483647)) (t := 2147483587) (by omega)
  have dv := dm_v (a := D % 2147483587) (b := D % 2147483647) (p := 2147483587) (by omega) (by omega) (by omega)
  generalize dm (lN (D % 2147483587) - lN (D % 2147483647)) 2147483587 = x at dl1 dv
  refine sq_inverse (by omega) (by omega) (by omega) ⟨_, rfl, ?_⟩
  have iv := inv_lt (x := 2147483647) (p := 2147483587) (by omega)
  have mb : x * inv 2147483647 2147483587 < 9223372036854775808 := by
    have : x * inv 2147483647 2147483587 ≤ 2147483647 * 2147483647 := Nat.mul_le_mul (by omega) (by omega)
    omega
  intro v ev
  rw [l_mul, pk_lRem mb (by omega) (by omega), ga_s (D := D) (by omega) pI13 (by rw [dv]; omega)] at ev
  rw [ev]
  have m4 : D / 2147483647 % 2147483587 < 2147483587 := Nat.mod_lt _ (by omega)
  refine sp_fmod (by omega) (by omega) ⟨_, rfl, ?_⟩
  have dl2 := dm_lt (a := lN (D / 2147483647 % 2147483587) - lN (D / 2147483647 % 2147483629)) (t := 2147483587) (by omega)
  have dv2 := dm_v (a := D / 2147483647 % 2147483587) (b := D / 2147483647 % 2147483629) (p := 2147483587) (by omega) (by omega) (by omega)
  generalize dm (lN (D / 2147483647 % 2147483587) - lN (D / 2147483647 % 2147483629)) 2147483587 = y at dl2 dv2
  refine sq_inverse (by omega) (by omega) (by omega) ⟨_, rfl, ?_⟩
  have iv2 := inv_lt (x := 2147483629) (p := 2147483587) (by omega)
  have mb2 : y * inv 2147483629 2147483587 < 9223372036854775808 := by
    have : y * inv 2147483629 2147483587 ≤ 2147483647 * 2147483647 := Nat.mul_le_mul (by omega) (by omega)
    omega
  dsimp only
  rw [l_mul, pk_lRem mb2 (by omega) (by omega), ga_s (D := D / 2147483647) (by omega) pI23 (by rw [dv2]; omega)]
  exact k
def FX : List (Nat × Nat) := [(3, 17), (3, 18), (0, 2945), (0, 2946), (2, 47)]
theorem sq_countHex {a b c : Nat} (ha1 : 1 ≤ a) (ha : a ≤ 8) (hb1 : 1 ≤ b) (hb : b ≤ 8) (hc1 : 1 ≤ c) (hc : c ≤ 8) (k : ∀ z', fr FX z z' → bw (hps a b c) z' → tq_fi z' 2946 = 0 → Q (.inl none) z') : wm_X3_countHexagon (nI a) (nI b) (nI c) z Q := by
  obtain ⟨D, hD⟩ : ∃ D, D = hps a b c := ⟨_, rfl⟩
  have Dlt : D < 2147483647 * (2147483629 * 2147483587) := by
    have := hps_p ⟨a - 1, by omega⟩ ⟨b - 1, by omega⟩ ⟨c - 1, by omega⟩
    simp only at this
    have e1 : a - 1 + 1 = a := by omega
    have e2 : b - 1 + 1 = b := by omega
    have e3 : c - 1 + 1 = c := by omega
    rw [e1, e2, e3] at this
    rw [hD]; exact this
  have D34 : D < 1000000000 ^ 34 := by rw [hD]; exact hps_lt ha hb hc
  rw [← hD] at k
  obtain ⟨pr, hpr⟩ : ∃ pr : Nat → Nat, pr = fun i => if i = 0 then 2147483647 else if i = 1 then 2147483629 else 2147483587 := ⟨_, rfl⟩
  unfold wm_X3_countHexagon wc_X3_countHexagon_3
  refine lp_inv (fun i s => ∃ z', s = (nI i, z') ∧ fr [(3, 17), (3, 18)] z z' ∧ ∀ j, j < i → tq_al z' 18 j = lN (D % pr j)) 3 ?_ ⟨z, rfl, fr_r, fun j hj => by omega⟩
  rintro i s hi ⟨z1, rfl, f1, r1⟩ B1 hB1
  simp only
  unfold wb_X3_countHexagon_3
  rw [i_3, i_le (by omega) (by omega)]
  refine ⟨fun h1 => ?_, fun h1 => ?_⟩
  · have : i = 3 := by omega
    subst this
    have g0 : tq_al z1 18 0 = lN (D % 2147483647) := by rw [r1 0 (by omega), hpr]; rfl
    have g1 : tq_al z1 18 1 = lN (D % 2147483629) := by rw [r1 1 (by omega), hpr]; rfl
    have g2 : tq_al z1 18 2 = lN (D % 2147483587) := by rw [r1 2 (by omega), hpr]; rfl
    have q1 : D / 2147483647 / 2147483629 < 2147483587 := by omega
    unfold wc_X3_countHexagon_88
    refine sq_third g0 g1 g2 ⟨_, rfl, ?_⟩
    rw [Nat.mod_eq_of_lt q1]
    refine sq_putW (by omega) (fun z2 f2 b2 n2 => ⟨rfl, ?_⟩)
    have a2 : tq_al z2 18 = tq_al z1 18 := fr_al f2 (by decide)
    refine sq_second (D := D) (by rw [a2]; exact g0) (by rw [a2]; exact g1) ⟨_, rfl, ?_⟩
    have q2 : D / 2147483647 % 2147483629 < 2147483629 := Nat.mod_lt _ (by omega)
    have e2 : D / 2147483647 / 2147483629 * 2147483629 + D / 2147483647 % 2147483629 = D / 2147483647 := Nat.div_add_mod' _ _
    have lt2 : D / 2147483647 < 1000000000 ^ 34 := Nat.lt_of_le_of_lt (Nat.div_le_self _ _) D34
    refine sq_timesP (f := 2147483629) (by omega) (by omega) (by omega) b2 (by rw [e2]; exact lt2) (fun z3 f3 b3 => ⟨rfl, ?_⟩)
    rw [e2] at b3
    have a3 : tq_al z3 18 0 = lN (D % 2147483647) := by rw [fr_al f3 (by decide), a2]; exact g0
    have c0 : Int32.toNatClampNeg 0 = 0 := rfl
    dsimp only
    rw [c0, a3]
    have q3 : D % 2147483647 < 2147483647 := Nat.mod_lt _ (by omega)
    have e3 : D / 2147483647 * 2147483647 + D % 2147483647 = D := Nat.div_add_mod' _ _
    refine sq_timesP (f := 2147483647) (by omega) (by omega) (by omega) b3 (by rw [e3]; exact D34) (fun z4 f4 b4 => ⟨rfl, ?_⟩)
    rw [e3] at b4
    refine k z4 (fr_t (fr_m (by decide) f1) (fr_t (fr_m (by decide) f2) (fr_t (fr_m (by decide) f3) (fr_m (by decide) f4)))) b4 ?_
    rw [fr_fi f4 (by decide), fr_fi f3 (by decide)]; exact n2
  · have hB1 := hB1 (by omega)
    have hp : pr i = 2147483647 ∨ pr i = 2147483629 ∨ pr i = 2147483587 := by
      rw [hpr]
      have : i = 0 ∨ i = 1 ∨ i = 2 := by omega
      rcases this with rfl | rfl | rfl
      · exact Or.inl rfl
      · exact Or.inr (Or.inl rfl)
      · exact Or.inr (Or.inr rfl)
    have fin : ∀ z2, fr [(3, 17), (3, 18)] z z2 → (∀ j, j < i → tq_al z2 18 j = lN (D % pr j)) → mt a (hM0 b c) z2 → wc_X3_countHexagon_65 (fun b5 z => B1 (b5, z)) Q (nI a) (nI b) (nI c) (nI i) z2 := by
      intro z2 f2 r2 m2
      have go : wm_X3_eliminate (nI a) (lN (pr i)) z2 (tq_wl fun r104 z103 => vp_in (nI i) 3 ∧ ∀ z105, z105 = tq_sal z103 18 (vp_updL (tq_al z103 18) (Int32.toNatClampNeg (nI i)) r104) → ∀ v106 : Int32, v106 = nI i + (1 : Int32) → B1 (v106, z105)) := by
        have hx := hx_E hb1 hb hc1 hc hp
        refine sq_eliminate (M := hM0 b c) (fun m res M' => res = hS (pr i) b c m ∧ ∀ r x, r < a → x < a → M' r x = hR (pr i) b c m r x) (by omega) (by omega) (by omega) m2 (fun r x _ _ => Nat.lt_of_le_of_lt (hM0_lt hb hc) (by omega)) ⟨rfl, fun r x _ _ => rfl⟩ ?_ ?_ ?_
        · rintro m res M' hm ⟨e1, e2⟩ hres hM' q hq1 hq2 hq3 hq4
          have qm : q = m := by
            refine Classical.byContradiction fun hn => ?_
            have h1 := hq4 m (Nat.le_refl _) (by omega)
            rw [e2 m m hm hm] at h1
            exact (hx m (by omega)).1 h1
          rw [if_pos qm, if_pos qm]
          refine ⟨by rw [e1, e2 m m hm hm]; rfl, fun r x hr hx2 => ?_⟩
          show _ = clr (pr i) (inv (hR (pr i) b c m m m) (pr i)) m (hR (pr i) b c m) r x
          unfold clr
          rw [e2 r x hr hx2, e2 r m hr hm, e2 m x hm hx2, e2 m m hm hm]
        · rintro m res M' z' hm ⟨e1, e2⟩ hM' h0 f
          have h1 := h0 m (Nat.le_refl _) hm
          rw [e2 m m hm hm] at h1
          exact absurd h1 (hx m (by omega)).1
        · rintro res M' z' ⟨e1, e2⟩ hres hM' f
          refine ⟨_, rfl, i_in (by omega) (by omega), fun z3 e3 v e4 => ?_⟩
          rw [i_1, i_add] at e4
          refine hB1 _ ⟨z3, by rw [e4], by rw [e3]; exact fr_sal (by decide) (fr_t f2 (fr_m (by decide) f)), fun j hj => ?_⟩
          rw [e3, rw_ale, rw_updL, i_cl (by omega)]
          by_cases q : j = i
          · rw [if_pos q, q, e1]
            have := (hx (a - 1) (by omega)).2
            have ea : a - 1 + 1 = a := by omega
            rw [ea] at this
            rw [this, hD]
          · rw [if_neg q, fr_al f (by decide)]; exact r2 j (by omega)
      unfold wc_X3_countHexagon_65 wm_X3_prime
      rw [i_0, i_1, i_eq (by omega) (by omega), i_eq (by omega) (by omega)]
      refine ⟨fun h2 => ⟨fun h3 => ⟨_, rfl, ?_⟩, fun h3 => ⟨_, rfl, ?_⟩⟩, fun h2 => ⟨_, rfl, ?_⟩⟩
      · have e : lN (pr i) = (2147483587 : Int64) := by rw [hpr]; show lN (if i = 0 then _ else if i = 1 then _ else _) = _; rw [if_neg h2, if_neg h3]; rfl
        rw [e] at go; exact go
      · have e : lN (pr i) = (2147483629 : Int64) := by rw [hpr]; show lN (if i = 0 then _ else if i = 1 then _ else _) = _; rw [if_neg h2, if_pos h3]; rfl
        rw [e] at go; exact go
      · have e : lN (pr i) = (2147483647 : Int64) := by rw [hpr]; show lN (if i = 0 then _ else if i = 1 then _ else _) = _; rw [if_pos h2]; rfl
        rw [e] at go; exact go
    unfold wc_X3_countHexagon_12
    refine lp_inv (fun r s => ∃ z', s = (nI r, z') ∧ fr [(3, 17), (3, 18)] z z' ∧ (∀ j, j < i → tq_al z' 18 j = lN (D % pr j)) ∧ ∀ y x, y < r → x < a → tq_al z' 17 (32 * y + x) = lN (hM0 b c y x)) a ?_ ⟨z1, rfl, f1, r1, fun y x hy => by omega⟩
    rintro r s hr ⟨z2, rfl, f2, r2, m2⟩ B2 hB2
    simp only
    unfold wb_X3_countHexagon_12
    rw [i_le (by omega) (by omega)]
    refine ⟨fun h2 => fin z2 f2 r2 (fun y x hy hx => m2 y x (by omega) hx), fun h2 => ?_⟩
    have hB2 := hB2 (by omega)
    unfold wc_X3_countHexagon_21
    refine lp_inv (fun x s => ∃ z', s = (nI x, z') ∧ fr [(3, 17), (3, 18)] z z' ∧ (∀ j, j < i → tq_al z' 18 j = lN (D % pr j)) ∧ (∀ y x, y < r → x < a → tq_al z' 17 (32 * y + x) = lN (hM0 b c y x)) ∧ ∀ y, y < x → tq_al z' 17 (32 * r + y) = lN (hM0 b c r y)) a ?_ ⟨z2, rfl, f2, r2, m2, fun y hy => by omega⟩
    rintro x s hx ⟨z3, rfl, f3, r3, m3, l3⟩ B3 hB3
    simp only
    unfold wb_X3_countHexagon_21
    rw [i_le (by omega) (by omega)]
    refine ⟨fun h3 => ?_, fun h3 => ?_⟩
    · unfold wc_X3_countHexagon_59
      intro v e
      rw [i_1, i_add] at e
      refine hB2 _ ⟨z3, by rw [e], f3, r3, fun y x' hy hx' => ?_⟩
      by_cases q : y = r
      · rw [q]; exact l3 x' (by omega)
      · exact m3 y x' (by omega) hx'
    · refine sq_choose hb hc (by omega) (by omega) ⟨_, rfl, ?_⟩
      rw [mt_ix, i_cl (by omega)]
      refine ⟨i_in (by omega) (by omega), fun z4 e4 v e5 => ?_⟩
      rw [i_1, i_add] at e5
      have a18 : tq_al z4 18 = tq_al z3 18 := by rw [e4, rw_aln (by omega)]
      have a17 : ∀ y, tq_al z4 17 y = if y = 32 * r + x then lN (hM0 b c r x) else tq_al z3 17 y := by
        intro y; rw [e4, rw_ale, rw_updL]
      refine hB3 (by omega) _ ⟨z4, by rw [e5], by rw [e4]; exact fr_sal (by decide) f3, fun j hj => by rw [a18]; exact r3 j hj, fun y x' hy hx' => ?_, fun y hy => ?_⟩
      · rw [a17, if_neg (by omega)]; exact m3 y x' hy hx'
      · rw [a17]
        by_cases q : y = x
        · rw [if_pos (by omega), q]
        · rw [if_neg (by omega)]; exact l3 y (by omega)
theorem sc_hexagon (k0 : (∀ a b c, ¬ h3 A B C a b c) → Q (.inr 1) z) (k1 : ∀ a b c, h3 A B C a b c → ∀ z', fr ([(3, 17), (3, 18)] ++ FT) z z' → ctx z' (tn false (hps a b c)) → Q (.inl (some (.int (nI (tn false (hps a b c)).length)))) z') : wm_X11_hexagon A B C z Q := by
  unfold wm_X11_hexagon
  refine sq_areSides (fun h => ⟨_, rfl, fun q => absurd rfl q, fun _ => k0 h⟩) (fun a b c h => ⟨_, rfl, fun _ => ?_, fun q => absurd q (by decide +kernel)⟩)
  have k2 := k1 a b c h
  obtain ⟨a1, a2, b1, b2, c1, c2, rfl, rfl, rfl⟩ := h
  refine sq_countHex a1 a2 b1 b2 c1 c2 (fun z1 f1 b1 n1 => ⟨rfl, ?_⟩)
  refine sq_sayW b1 n1 (fun z2 f2 t2 => ⟨_, rfl, ?_⟩)
  exact k2 z2 (fr_t (fr_m (by decide) f1) (fr_m (by decide) f2)) t2
end HEX
