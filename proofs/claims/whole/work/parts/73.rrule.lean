/-! ===== strips: the reference's shortest rule ===== -/
theorem l_h1 {e : Nat} (he : e < 9223372036854775808) : lN e >>> ((Int32.toInt64 (1 : Int32)) &&& 63) = lN (e / 2) := by
  refine Int64.toInt_inj.mp ?_
  rw [pk_lT (by omega)]
  have s1 : (((Int32.toInt64 (1 : Int32)) &&& 63).toBitVec.smod 64) = BitVec.ofNat 64 1 := by decide +kernel
  show (BitVec.sshiftRight' (lN e).toBitVec (((Int32.toInt64 (1 : Int32)) &&& 63).toBitVec.smod 64)).toInt = _
  rw [s1, BitVec.sshiftRight_eq', BitVec.toInt_sshiftRight]
  have h1 : (lN e).toBitVec.toInt = (e : Int) := pk_lT (by omega)
  have h2 : (BitVec.ofNat 64 1).toNat = 1 := rfl
  rw [h1, h2, Int.shiftRight_eq_div_pow]
  omega
theorem offR_lt {t now : List Nat} {n : Nat} (h : t.getD n 0 < 2147483647) : ∀ k, offR t now n k < 2147483647
  | 0 => h
  | k + 1 => Nat.mod_lt _ (by omega)
/-- the state's bounds -/
def bmB (n : Nat) (s : bmS) : Prop := (∀ k, s.1.getD k 0 < 2147483647) ∧ (∀ k, s.2.1.getD k 0 < 2147483647) ∧ s.2.2.1 ≤ n ∧ 1 ≤ s.2.2.2.1 ∧ s.2.2.2.1 ≤ n + 1 ∧ s.2.2.2.2 < 2147483647
theorem gd_lt {m P : Nat} {f : Nat → Nat} (hP : 0 < P) (h : ∀ k, k < m → f k < P) (k : Nat) : ((List.range m).map f).getD k 0 < P := by
  rw [gd_range]
  split
  · exact h k (by assumption)
  · exact hP
theorem bmU_lt {now bf : List Nat} {si by_ : Nat} (h1 : ∀ k, now.getD k 0 < 2147483647) (k : Nat) : (bmU now bf si by_).getD k 0 < 2147483647 := by
  refine gd_lt (by omega) (fun j hj => ?_) k
  split
  · exact Nat.mod_lt _ (by omega)
  · exact h1 j
section RRULE
variable {z : tq_S} {Q : tq_O → tq_S → Prop} {w : Nat}
theorem sq_rpower {x e : Nat} (hx : x < 9223372036854775808) (he : e < 2147483648) (k : Q (.inl (some (.long (lN (x ^ e % 2147483647))))) z) : wm_X12_power (lN x) (lN e) z Q := by
  have cP : (2147483647 : Int64) = lN 2147483647 := rfl
  have mulb : ∀ x y, x < 2147483647 → y < 2147483647 → x * y < 9223372036854775808 := by
    intro x y hx hy
    have : x * y ≤ 2147483647 * 2147483647 := Nat.mul_le_mul (by omega) (by omega)
    omega
  unfold wm_X12_power
  intro v1 e1
  rw [cP, pk_lRem hx (by omega) (by omega)] at e1
  unfold wc_X12_power_13
  refine lp_inv (fun m s => ∃ r q, s = (lN r, lN q, lN (e / 2 ^ m), z) ∧ r < 2147483647 ∧ q < 2147483647 ∧ r * q ^ (e / 2 ^ m) % 2147483647 = x ^ e % 2147483647) 31 ?_ ⟨1, x % 2147483647, by rw [e1, Nat.pow_zero, Nat.div_one]; rfl, by omega, Nat.mod_lt _ (by omega), by rw [Nat.pow_zero, Nat.div_one, Nat.one_mul, ← Nat.pow_mod]⟩
  rintro m s hm ⟨r, q, rfl, r1, q1, hi⟩ B hB
  simp only
  have elt : e / 2 ^ m < 9223372036854775808 := Nat.lt_of_le_of_lt (Nat.div_le_self _ _) (by omega)
  unfold wb_X12_power_13
  rw [l_le0 elt]
  refine ⟨fun h1 => ?_, fun h1 => ?_⟩
  · rw [h1, Nat.pow_zero, Nat.mul_one, Nat.mod_eq_of_lt r1] at hi
    rw [hi]; exact k
  · have hm31 : m < 31 := by
      refine Classical.byContradiction fun hn => h1 ?_
      have : m = 31 := by omega
      rw [this]
      exact Nat.div_eq_of_lt he
    have hB := hB hm31
    have dd : e / 2 ^ (m + 1) = e / 2 ^ m / 2 := by rw [Nat.pow_succ, Nat.div_div_eq_div_mul]
    have sp : q ^ (e / 2 ^ m) = (q * q) ^ (e / 2 ^ (m + 1)) * q ^ (e / 2 ^ m % 2) := by
      have h1 : q * q = q ^ 2 := (Nat.pow_two q).symm
      rw [h1, ← Nat.pow_mul, ← Nat.pow_add, dd, Nat.div_add_mod]
    have fin : ∀ r', r' < 2147483647 → r' % 2147483647 = r * q ^ (e / 2 ^ m % 2) % 2147483647 → wc_X12_power_43 (fun b4 b6 b8 z => B (b4, b6, b8, z)) Q (lN q) (lN (e / 2 ^ m)) (lN r') z := by
      intro r' hr hr2
      unfold wc_X12_power_43
      intro v2 e2 v3 e3
      rw [l_mul, cP, pk_lRem (mulb _ _ q1 q1) (by omega) (by omega)] at e2
      rw [l_h1 elt, ← dd] at e3
      refine hB _ ⟨r', q * q % 2147483647, by rw [e2, e3], hr, Nat.mod_lt _ (by omega), ?_⟩
      rw [← hi, sp, Nat.mul_mod, hr2, ← Nat.pow_mod, ← Nat.mul_mod]
      congr 1
      rw [Nat.mul_assoc, Nat.mul_comm (q ^ (e / 2 ^ m % 2))]
    have b1 : (lN (e / 2 ^ m) &&& (1 : Int64)) = 1 ↔ e / 2 ^ m % 2 = 1 := by
      rw [l_1, fb_andL, Nat.and_one_is_mod, fb_lN_inj (by omega) (by omega)]
    rw [b1]
    refine ⟨fun h2 => fin r r1 ?_, fun h2 => ?_⟩
    · have : e / 2 ^ m % 2 = 0 := by omega
      rw [this, Nat.pow_zero, Nat.mul_one]
    · rw [l_mul, cP, pk_lRem (mulb _ _ r1 q1) (by omega) (by omega)]
      refine fin _ (Nat.mod_lt _ (by omega)) ?_
      rw [h2, Nat.pow_one, Nat.mod_mod]
def FW : List (Nat × Nat) := [(3, 54), (3, 55), (3, 78), (3, 79), (3, 80), (3, 81), (0, 3313)]
/-- the arrays are the lists -/
def bmA (s : bmS) (z : tq_S) : Prop := (∀ k, k < 48 → tq_al z 79 k = lN (s.1.getD k 0)) ∧ (∀ k, k < 48 → tq_al z 80 k = lN (s.2.1.getD k 0)) ∧ tq_fi z 3313 = nI s.2.2.1
theorem sq_tellRule {t : List Nat} (ht : t = trm w) (hw : wd w) (k : ∀ z', fr FW z z' → bmA (bmI t 48) z' → bmB 48 (bmI t 48) → (∀ n, n < 48 → tq_al z' 78 n = lN (t.getD n 0)) → Q (.inl none) z') : wm_X12_tellRule (nI w) z Q := by
  have tlt : ∀ n, t.getD n 0 < 2147483647 := by
    intro n
    rw [ht]
    refine gd_lt (by omega) (fun j hj => ?_) n
    exact tW_lt (Nat.pow_pos (by omega))
  have cP : (2147483647 : Int64) = lN 2147483647 := rfl
  unfold wm_X12_tellRule
  refine sq_tellTerms hw (fun z0 f0 t0 => ⟨rfl, ?_⟩)
  rw [← ht] at t0
  have f0 : fr FW z z0 := fr_m (by decide) f0
  -- all the terms
  have main : ∀ z1, fr FW z z1 → bmA (bmI t 0) z1 → (∀ n, n < 48 → tq_al z1 78 n = lN (t.getD n 0)) → wc_X12_tellRule_58 Q (1 : Int32) (1 : Int64) (0 : Int32) z1 := by
    intro z1 f1 A1 t1
    unfold wc_X12_tellRule_58
    have b0 : bmB 0 (bmI t 0) := ⟨fun k => gd_lt (by omega) (fun j hj => by split <;> omega) k, fun k => gd_lt (by omega) (fun j hj => by split <;> omega) k, Nat.le_refl _, Nat.le_refl _, Nat.le_refl _, by show 1 < _; omega⟩
    refine lp_inv (fun n s => ∃ z', s = (nI (bmI t n).2.2.2.1, lN (bmI t n).2.2.2.2, nI n, z') ∧ fr FW z z' ∧ bmA (bmI t n) z' ∧ bmB n (bmI t n) ∧ ∀ n, n < 48 → tq_al z' 78 n = lN (t.getD n 0)) 48 ?_ ⟨z1, rfl, f1, A1, b0, t1⟩
    rintro n s hn ⟨z2, rfl, f2, A2, b2, t2⟩ B hB
    simp only
    unfold wb_X12_tellRule_58
    rw [i_48, i_le (by omega) (by omega)]
    refine ⟨fun h1 => ?_, fun h1 => ⟨i_in (by omega) (by omega), fun v1 e1 => ?_⟩⟩
    · have : n = 48 := by omega
      subst this
      exact k z2 f2 A2 b2 t2
    have hn48 : n < 48 := by omega
    have hB := hB hn48
    have enx : bmI t (n + 1) = bmN t n (bmI t n) := rfl
    rw [enx] at hB
    obtain ⟨s0, hs0⟩ : ∃ s0, s0 = bmI t n := ⟨_, rfl⟩
    rw [← hs0] at A2 b2 hB ⊢
    obtain ⟨now, bf, ord, si, last⟩ := s0
    obtain ⟨A21, A22, A23⟩ := A2
    obtain ⟨b21, b22, b23, b24, b25, b26⟩ := b2
    simp only at A21 A22 A23 b21 b22 b23 b24 b25 b26
    rw [i_cl (by omega), t2 n hn48] at e1
    rw [e1]
    clear hs0 e1
    have olt := offR_lt (t := t) (now := now) (n := n) (tlt n)
    -- what is off
    have off : ∀ o, o = offR t now n ord → wc_X12_tellRule_119 (fun b2 b3 b5 z => B (b2, b3, b5, z)) Q (nI si) (lN last) (nI n) (lN o) z2 := by
      intro o ho
      have olt2 : o < 2147483647 := by rw [ho]; exact olt ord
      unfold wc_X12_tellRule_119
      rw [l_z (by omega)]
      refine ⟨fun h2 => ?_, fun h2 v2 e2 => ?_⟩
      rotate_left
      · -- nothing is off
        rw [i_1, i_add] at e2
        rw [e2]
        unfold wc_X12_tellRule_298
        intro v3 e3
        rw [i_1, i_add] at e3
        have en : bmN t n (now, bf, ord, si, last) = (now, bf, ord, si + 1, last) := by
          unfold bmN
          simp only
          rw [← ho, h2, if_pos rfl]
        rw [en] at hB
        exact hB _ ⟨z2, by rw [e3], f2, ⟨A21, A22, A23⟩, ⟨b21, b22, by show ord ≤ n + 1; omega, by show 1 ≤ si + 1; omega, by show si + 1 ≤ n + 1 + 1; omega, b26⟩, t2⟩
      · obtain ⟨y, hy⟩ : ∃ y, y = o * pwt 2147483647 31 2147483645 last 1 % 2147483647 := ⟨_, rfl⟩
        have pe : pwt 2147483647 31 2147483645 last 1 = last ^ 2147483645 % 2147483647 := by rw [pwt_s _ _ _ _ _ (by omega) (by omega), Nat.one_mul]
        have plt : last ^ 2147483645 % 2147483647 < 2147483647 := Nat.mod_lt _ (by omega)
        have ylt : y < 2147483647 := by rw [hy]; exact Nat.mod_lt _ (by omega)
        have en : bmN t n (now, bf, ord, si, last) = if 2 * ord ≤ n then (bmU now bf si y, now, n + 1 - ord, 1, o) else (bmU now bf si y, bf, ord, si + 1, last) := by
          unfold bmN
          simp only
          rw [← ho, if_neg h2, hy]
        rw [en] at hB
        refine sq_rpower (x := last) (e := 2147483645) (by omega) (by omega) ⟨_, rfl, fun v3 e3 => ?_⟩
        have mb : o * (last ^ 2147483645 % 2147483647) < 9223372036854775808 := by
          have : o * (last ^ 2147483645 % 2147483647) ≤ 2147483647 * 2147483647 := Nat.mul_le_mul (by omega) (by omega)
          omega
        rw [l_mul, cP, pk_lRem mb (by omega) (by omega), ← pe, ← hy] at e3
        rw [e3]
        -- kept
        unfold wc_X12_tellRule_151
        refine lp_inv (fun x s => ∃ z', s = (nI x, z') ∧ fr [(3, 81)] z2 z' ∧ ∀ k, k < x → tq_al z' 81 k = lN (now.getD k 0)) 48 ?_ ⟨z2, rfl, fr_r, fun k hk => by omega⟩
        rintro x s hx ⟨z3, rfl, f3, a3⟩ B2 hB2
        simp only
        unfold wb_X12_tellRule_151
        rw [i_48, i_le (by omega) (by omega)]
        refine ⟨fun h3 => ?_, fun h3 => ⟨i_in (by omega) (by omega), i_in (by omega) (by omega), fun z4 e4 v5 e5 => ?_⟩⟩
        rotate_left
        · rw [i_1, i_add] at e5
          refine hB2 (by omega) _ ⟨z4, by rw [e5], by rw [e4]; exact fr_sal (by decide) f3, fun j hj => ?_⟩
          rw [e4, rw_ale, rw_updL, i_cl (by omega)]
          by_cases q : j = x
          · rw [if_pos q, fr_al f3 (by decide), A21 x (by omega), q]
          · rw [if_neg q]; exact a3 j (by omega)
        have : x = 48 := by omega
        subst this
        clear hB2
        -- now
        unfold wc_X12_tellRule_178 wc_X12_tellRule_181
        refine lp_inv (fun x s => ∃ z', s = (nI x, z') ∧ fr [(3, 79)] z3 z' ∧ ∀ k, k < 48 → tq_al z' 79 k = lN (if si ≤ k ∧ k < x + si then (bmU now bf si y).getD k 0 else now.getD k 0)) 48 ?_ ⟨z3, rfl, fr_r, fun k hk => by rw [if_neg (by omega), fr_al f3 (by decide)]; exact A21 k hk⟩
        rintro x s hx ⟨z4, rfl, f4, a4⟩ B2 hB2
        simp only
        unfold wb_X12_tellRule_181
        rw [i_48, i_add, i_le (by omega) (by omega)]
        refine ⟨fun h4 => ?_, fun h4 => ⟨i_in (by omega) (by omega), i_in (by omega) (by omega), i_in (by omega) (by omega), fun z5 e5 v6 e6 => ?_⟩⟩
        rotate_left
        · rw [i_1, i_add] at e6
          have bx : tq_al z4 80 x = lN (bf.getD x 0) := by rw [fr_al f4 (by decide), fr_al f3 (by decide)]; exact A22 x (by omega)
          have n1 := b21 (x + si)
          have n2 := b22 x
          have mb2 : now.getD (x + si) 0 + (2147483647 - y) * bf.getD x 0 < 9223372036854775808 := by
            have : (2147483647 - y) * bf.getD x 0 ≤ 2147483647 * 2147483647 := Nat.mul_le_mul (by omega) (by omega)
            omega
          rw [i_cl (by omega), i_cl (by omega), bx, a4 (x + si) (by omega), if_neg (by omega), cP, l_sub (by omega), l_mul, l_add, pk_lRem mb2 (by omega) (by omega)] at e5
          refine hB2 (by omega) _ ⟨z5, by rw [e6], by rw [e5]; exact fr_sal (by decide) f4, fun j hj => ?_⟩
          rw [e5, rw_ale, rw_updL]
          by_cases q : j = x + si
          · rw [if_pos q, if_pos (by omega), q]
            unfold bmU
            rw [gd_range, if_pos (by omega), if_pos (by omega)]
            have : x + si - si = x := by omega
            rw [this]
          · rw [if_neg q, a4 j hj]
            by_cases q2 : si ≤ j ∧ j < x + si
            · rw [if_pos q2, if_pos (by omega)]
            · rw [if_neg q2, if_neg (by omega)]
        have new : ∀ j, j < 48 → tq_al z4 79 j = lN ((bmU now bf si y).getD j 0) := by
          intro j hj
          rw [a4 j hj]
          by_cases q : si ≤ j ∧ j < x + si
          · rw [if_pos q]
          · rw [if_neg q]
            unfold bmU
            rw [gd_range, if_pos hj, if_neg (by omega)]
        clear hB2
        have f24 : fr FW z z4 := fr_t f2 (fr_t (fr_m (by decide) f3) (fr_m (by decide) f4))
        have t4 : ∀ n, n < 48 → tq_al z4 78 n = lN (t.getD n 0) := fun j hj => by rw [fr_al f4 (by decide), fr_al f3 (by decide)]; exact t2 j hj
        have o4 : tq_fi z4 3313 = nI ord := by rw [fr_fi f4 (by decide), fr_fi f3 (by decide)]; exact A23
        have k4 : ∀ j, j < 48 → tq_al z4 81 j = lN (now.getD j 0) := fun j hj => by rw [fr_al f4 (by decide)]; exact a3 j (by omega)
        have p4 : ∀ j, j < 48 → tq_al z4 80 j = lN (bf.getD j 0) := fun j hj => by rw [fr_al f4 (by decide), fr_al f3 (by decide)]; exact A22 j hj
        unfold wc_X12_tellRule_233
        rw [o4, i_2, pk_mul, i_lt (by omega) (by omega)]
        refine ⟨fun h5 v7 e7 => ?_, fun h5 z5 e5 => ?_⟩
        · rw [i_1, i_add] at e7
          rw [e7]
          unfold wc_X12_tellRule_298
          intro v8 e8
          rw [i_1, i_add] at e8
          rw [if_neg (by omega)] at hB
          exact hB _ ⟨z4, by rw [e8], f24, ⟨new, p4, o4⟩, ⟨bmU_lt b21, b22, by show ord ≤ n + 1; omega, by show 1 ≤ si + 1; omega, by show si + 1 ≤ n + 1 + 1; omega, b26⟩, t4⟩
        · rw [if_pos (by omega)] at hB
          have e5 : z5 = tq_sfi z4 3313 (nI (n + 1 - ord)) := by rw [e5, i_1, i_add, pk_sub (by omega)]
          have f5 : fr FW z z5 := by rw [e5]; exact fr_sfi (by decide) f24
          have new5 : ∀ j, j < 48 → tq_al z5 79 j = lN ((bmU now bf si y).getD j 0) := fun j hj => by rw [e5]; exact new j hj
          have k5 : ∀ j, j < 48 → tq_al z5 81 j = lN (now.getD j 0) := fun j hj => by rw [e5]; exact k4 j hj
          have t5 : ∀ n, n < 48 → tq_al z5 78 n = lN (t.getD n 0) := fun j hj => by rw [e5]; exact t4 j hj
          have o5 : tq_fi z5 3313 = nI (n + 1 - ord) := by rw [e5, rw_fie]
          clear e5
          unfold wc_X12_tellRule_260
          refine lp_inv (fun x s => ∃ z', s = (nI x, z') ∧ fr [(3, 80)] z5 z' ∧ ∀ k, k < x → tq_al z' 80 k = lN (now.getD k 0)) 48 ?_ ⟨z5, rfl, fr_r, fun k hk => by omega⟩
          rintro x s hx ⟨z6, rfl, f6, a6⟩ B2 hB2
          simp only
          unfold wb_X12_tellRule_260
          rw [i_48, i_le (by omega) (by omega)]
          refine ⟨fun h6 => ?_, fun h6 => ⟨i_in (by omega) (by omega), i_in (by omega) (by omega), fun z7 e7 v8 e8 => ?_⟩⟩
          rotate_left
          · rw [i_1, i_add] at e8
            refine hB2 (by omega) _ ⟨z7, by rw [e8], by rw [e7]; exact fr_sal (by decide) f6, fun j hj => ?_⟩
            rw [e7, rw_ale, rw_updL, i_cl (by omega)]
            by_cases q : j = x
            · rw [if_pos q, fr_al f6 (by decide), k5 x (by omega), q]
            · rw [if_neg q]; exact a6 j (by omega)
          · unfold wc_X12_tellRule_287 wc_X12_tellRule_298
            intro v8 e8
            rw [i_1, i_add] at e8
            refine hB _ ⟨z6, by rw [e8]; rfl, fr_t f5 (fr_m (by decide) f6), ⟨fun j hj => by rw [fr_al f6 (by decide)]; exact new5 j hj, fun j hj => a6 j (by omega), by rw [fr_fi f6 (by decide)]; exact o5⟩, ⟨bmU_lt b21, b21, by show n + 1 - ord ≤ n + 1; omega, Nat.le_refl _, by show 1 ≤ n + 1 + 1; omega, by show o < _; exact olt2⟩, fun j hj => by rw [fr_al f6 (by decide)]; exact t5 j hj⟩
    unfold wc_X12_tellRule_77
    refine lp_inv (fun m s => s = (lN (offR t now n m), nI (m + 1), z2)) ord ?_ rfl
    rintro m s hm rfl B2 hB2
    simp only
    unfold wb_X12_tellRule_77
    rw [A23, i_lt (by omega) (by omega)]
    refine ⟨fun h2 => off _ (by have : m = ord := by omega
                                rw [this]), fun h2 => ?_⟩
    have n1 := b21 (m + 1)
    have n2 := tlt (n - (m + 1))
    have n3 := olt m
    have mb : offR t now n m + now.getD (m + 1) 0 * t.getD (n - (m + 1)) 0 < 9223372036854775808 := by
      have : now.getD (m + 1) 0 * t.getD (n - (m + 1)) 0 ≤ 2147483647 * 2147483647 := Nat.mul_le_mul (by omega) (by omega)
      omega
    rw [pk_sub (by omega), i_cl (by omega), i_cl (by omega), A21 (m + 1) (by omega), t2 (n - (m + 1)) (by omega), cP, l_mul, l_add, pk_lRem mb (by omega) (by omega)]
    refine ⟨i_in (by omega) (by omega), i_in (by omega) (by omega), fun v3 e3 v4 e4 => ?_⟩
    rw [i_1, i_add] at e4
    exact hB2 (by omega) _ (by rw [e3, e4]; rfl)
  unfold wc_X12_tellRule_7
  refine lp_inv (fun x s => ∃ z', s = (nI x, z') ∧ fr FW z z' ∧ (∀ k, k < x → tq_al z' 79 k = lN (if k = 0 then 1 else 0)) ∧ (∀ k, k < x → tq_al z' 80 k = lN (if k = 0 then 1 else 0)) ∧ ∀ n, n < 48 → tq_al z' 78 n = lN (t.getD n 0)) 48 ?_ ⟨z0, rfl, f0, fun k hk => by omega, fun k hk => by omega, t0⟩
  rintro x s hx ⟨z1, rfl, f1, a1, b1, t1⟩ B hB
  simp only
  unfold wb_X12_tellRule_7
  rw [i_48, i_le (by omega) (by omega)]
  refine ⟨fun h1 => ?_, fun h1 => ?_⟩
  · unfold wc_X12_tellRule_46
    intro z2 e2
    refine main z2 (by rw [e2]; exact fr_sfi (by decide) f1) ⟨fun j hj => ?_, fun j hj => ?_, by rw [e2, rw_fie]; rfl⟩ (fun j hj => by rw [e2]; exact t1 j hj)
    · show tq_al z2 79 j = lN (((List.range 48).map (fun k => if k = 0 then 1 else 0)).getD j 0)
      rw [gd_range, if_pos hj, e2]; exact a1 j (by omega)
    · show tq_al z2 80 j = lN (((List.range 48).map (fun k => if k = 0 then 1 else 0)).getD j 0)
      rw [gd_range, if_pos hj, e2]; exact b1 j (by omega)
  · have fin : ∀ v : Int64, v = lN (if x = 0 then 1 else 0) → wc_X12_tellRule_27 (fun b2 z => B (b2, z)) Q (nI x) v (nI x) z1 := by
      intro v ev
      unfold wc_X12_tellRule_27
      refine ⟨i_in (by omega) (by omega), fun z2 e2 => ⟨i_in (by omega) (by omega), i_in (by omega) (by omega), fun z3 e3 v4 e4 => ?_⟩⟩
      rw [i_1, i_add] at e4
      rw [i_cl (by omega)] at e2 e3
      refine hB (by omega) _ ⟨z3, by rw [e4], by rw [e3]; refine fr_sal (by decide) ?_; rw [e2]; exact fr_sal (by decide) f1, fun j hj => ?_, fun j hj => ?_, fun j hj => ?_⟩
      · rw [e3, rw_aln (by omega), e2, rw_ale, rw_updL]
        by_cases q : j = x
        · rw [if_pos q, ev, q]
        · rw [if_neg q]; exact a1 j (by omega)
      · rw [e3, rw_ale, rw_updL, e2, rw_ale, rw_updL, if_pos rfl]
        by_cases q : j = x
        · rw [if_pos q, ev, q]
        · rw [if_neg q, rw_aln (by omega)]; exact b1 j (by omega)
      · rw [e3, rw_aln (by omega), e2, rw_aln (by omega)]; exact t1 j hj
    rw [i_0, i_eq (by omega) (by omega)]
    refine ⟨fun q => fin _ (by rw [if_neg q]; rfl), fun q => fin _ (by rw [if_pos q]; rfl)⟩
end RRULE
