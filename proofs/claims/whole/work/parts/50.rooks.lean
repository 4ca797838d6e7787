/-! ===== rooks: bits of a mask, the reference's ways ===== -/
def bcn (m : Nat) : Nat := fb_ct (fun j => m.testBit j) 8
def zz0 : tq_S := ⟨fun _ => 0, fun _ => 0, fun _ _ => 0, fun _ _ => 0, fun _ _ => 0⟩
theorem bcn_c : ∀ m : Fin 256, fx_J6_bitCount_0f7a4 (nI m.val) zz0 = nI (bcn m.val) := by decide +kernel
theorem bcn_k : ∀ v : Fin 256, v.val ≠ 0 → lN v.val &&& (lN v.val - 1) = lN (v.val &&& (v.val - 1)) ∧ bcn (v.val &&& (v.val - 1)) + 1 = bcn v.val := by decide +kernel
theorem bcn_0 : ∀ v : Fin 256, bcn v.val = 0 → v.val = 0 := by decide +kernel
theorem bcn_8 (m : Nat) : bcn m ≤ 8 := fb_ct_le _ 8
def rkC (S : Nat → Bool) (h k n : Nat) : Nat := fb_sm (fun m => if bcn m = k then rkW S h m else 0) n
section ROOKS2
variable {w h : Nat} {r : Bool} {S : Nat → Bool} {z : tq_S} {Q : tq_O → tq_S → Prop} {y : Nat}
theorem sq_bc8 {m : Nat} (hm : m < 256) (k : Q (.inl (some (.int (nI (bcn m))))) z) : wm_J6_bitCount_0f7a4 (nI m) z Q := by
  refine fw_J6_bitCount_0f7a4 ?_
  have e : fx_J6_bitCount_0f7a4 (nI m) z = nI (bcn m) := bcn_c ⟨m, hm⟩
  rw [e]; exact k
theorem sq_bits {m : Nat} (hm : m < 256) (k : Q (.inl (some (.int (nI (bcn m))))) z) : wm_X12_bits (lN m) z Q := by
  unfold wm_X12_bits wc_X12_bits_4
  have b8 := bcn_8 m
  refine lp_inv (fun k s => ∃ v, v < 256 ∧ s = (nI k, lN v, z) ∧ bcn v + k = bcn m) (bcn m) ?_ ⟨m, hm, rfl, rfl⟩
  rintro j s hj ⟨v, hv, rfl, e⟩ B hB
  simp only
  unfold wb_X12_bits_4
  rw [l_z (by omega)]
  refine ⟨fun h1 => ?_, fun h1 => ?_⟩
  · have : bcn v = 0 := by rw [h1]; rfl
    have : j = bcn m := by omega
    rw [this]; exact k
  · obtain ⟨q1, q2⟩ := bcn_k ⟨v, hv⟩ h1
    have q1' : lN v &&& (lN v - 1) = lN (v &&& (v - 1)) := q1
    have q2' : bcn (v &&& (v - 1)) + 1 = bcn v := q2
    have lt : v &&& (v - 1) < 256 := Nat.lt_of_le_of_lt Nat.and_le_left hv
    intro v1 e1 v2 e2
    rw [i_1, i_add] at e1
    rw [q1'] at e2
    subst e1
    subst e2
    exact hB (by omega) _ ⟨_, lt, rfl, by omega⟩
theorem rkC_s {k n : Nat} : rkC S h k (n + 1) = rkC S h k n + (if bcn n = k then rkW S h n else 0) := rfl
theorem rkC_b {k : Nat} (hh : h ≤ 8) : rkC S h k 256 ≤ 256 * 43046721 := by
  unfold rkC
  refine fb_sm_bound (fun m _ => ?_)
  split
  · exact rkW_b hh
  · omega
theorem sq_countRooks {k0 : Nat} (hk : k0 ≤ 8) (hd : jd w h r S) (hj : jc w h r S z) (k : ∀ z', fr [(3, 43)] z z' → Q (.inl (some (.long (lN (rkC S h k0 256))))) z') : wm_X10_countRooks (nI k0) z Q := by
  unfold wm_X10_countRooks
  refine sq_fillWays hd hj (fun z1 f1 g1 => ⟨rfl, ?_⟩)
  unfold wc_X10_countRooks_9
  refine lp_inv (fun m s => s = (lN (rkC S h k0 m), nI m, z1)) 256 ?_ rfl
  rintro m s hm rfl B hB
  simp only
  unfold wb_X10_countRooks_9
  rw [i_256]
  refine ⟨fun h1 => ?_, fun h1 => ?_⟩
  · rw [i_le (by omega) (by omega)] at h1
    have : m = 256 := by omega
    rw [this]; exact k z1 f1
  · rw [i_le (by omega) (by omega)] at h1
    refine sq_bc8 (by omega) ⟨_, rfl, ?_⟩
    have b8 := bcn_8 m
    show (¬ nI (bcn m) = nI k0 → _) ∧ (nI (bcn m) = nI k0 → _)
    rw [i_eq (by omega) (by omega)]
    have fin : ∀ v, v = lN (if bcn m = k0 then rkW S h m else 0) → wc_X10_countRooks_38 (fun b2 b4 z => B (b2, b4, z)) Q (nI k0) (nI m) v (lN (rkC S h k0 m)) z1 := by
      intro v e
      unfold wc_X10_countRooks_38
      intro v1 e1 v2 e2
      rw [i_1, i_add] at e2
      rw [e, l_add] at e1
      refine hB (by omega) _ ?_
      rw [e1, e2, rkC_s]
    refine ⟨fun h2 => fin _ (by rw [if_neg h2]; rfl), fun h2 => ?_⟩
    rw [i_cl (by omega)]
    exact ⟨i_in (by omega) (by omega), fin _ (by rw [if_pos h2]; exact g1 m (by omega))⟩
theorem sc_rooks {a : Int32} (hd : jd w h r S) (hj : jc w h r S z) (k0 : (∀ n, n ≤ 8 → a ≠ nI n) → Q (.inr 1) z) (k1 : ∀ n, n ≤ 8 → a = nI n → ∀ z', fr ([(3, 43)] ++ FT) z z' → ctx z' (tn false (rkC S h n 256)) → Q (.inl (some (.int (nI (tn false (rkC S h n 256)).length)))) z') : wm_X11_rooks a z Q := by
  unfold wm_X11_rooks
  have key : fi (0 : Int32).toInt (8 : Int32).toInt a = true ↔ ∃ n : Nat, n ≤ 8 ∧ a = nI n := by
    unfold fi
    have h8 : (8 : Int32).toInt = 8 := by decide +kernel
    rw [i_z, h8]
    simp only [Bool.and_eq_true, decide_eq_true_eq]
    constructor
    · rintro ⟨q1, q2⟩
      obtain ⟨n, hn, rfl⟩ := i_ex (x := a) (by rw [nu_lt, i_z]; omega)
      rw [i_ti hn] at q2
      exact ⟨n, by omega, rfl⟩
    · rintro ⟨n, hn, rfl⟩
      rw [i_ti (by omega)]
      omega
  refine sq_isFrom ⟨_, rfl, fun h1 => ?_, fun h1 => ?_⟩
  · rw [bi_n, key] at h1
    obtain ⟨n, hn, rfl⟩ := h1
    refine sq_countRooks hn hd hj (fun z1 f1 => ⟨_, rfl, ?_⟩)
    have hb := rkC_b (S := S) (k := n) hd.2.2.2.1
    refine sq_say (neg := false) (by omega) (fun q => (by cases q)) (fun z2 f2 t2 => ⟨_, rfl, k1 n hn rfl z2 (fr_t (fr_m (by decide) f1) (fr_m (by decide) f2)) t2⟩)
  · refine k0 (fun n hn e => ?_)
    rw [bi_0] at h1
    rw [key.mpr ⟨n, hn, e⟩] at h1; cases h1
theorem sq_rooksOf {k0 : Nat} (hk : k0 ≤ 8) (hd : jd w h r S) (hj : jr w h r S z) (k : ∀ z', fr [(3, 54), (3, 55)] z z' → Q (.inl (some (.long (lN (rkC S h k0 256))))) z') : wm_X12_rooksOf (nI k0) z Q := by
  have hw8 := hd.2.1
  have hh8 := hd.2.2.2.1
  have last : ∀ z', fr [(3, 54), (3, 55)] z z' → (∀ m, m < 256 → tq_al z' 54 m = lN (rkW S h m)) → wc_X12_rooksOf_177 Q (nI k0) z' := by
    intro z1 f1 g1
    unfold wc_X12_rooksOf_177 wc_X12_rooksOf_182
    refine lp_inv (fun m s => s = (lN (rkC S h k0 m), nI m, z1)) 256 ?_ rfl
    rintro m s hm rfl B hB
    simp only
    unfold wb_X12_rooksOf_182
    rw [i_256]
    refine ⟨fun h1 => ?_, fun h1 => ?_⟩
    · rw [i_le (by omega) (by omega)] at h1
      have : m = 256 := by omega
      rw [this]; exact k z1 f1
    · rw [i_le (by omega) (by omega)] at h1
      rw [i_to (by omega)]
      refine sq_bits (by omega) ⟨_, rfl, ?_⟩
      have b8 := bcn_8 m
      show (¬ nI (bcn m) = nI k0 → _) ∧ (nI (bcn m) = nI k0 → _)
      rw [i_eq (by omega) (by omega)]
      have fin : ∀ v, v = lN (if bcn m = k0 then rkW S h m else 0) → wc_X12_rooksOf_212 (fun b2 b4 z => B (b2, b4, z)) Q (nI k0) (nI m) v (lN (rkC S h k0 m)) z1 := by
        intro v e
        unfold wc_X12_rooksOf_212
        intro v1 e1 v2 e2
        rw [i_1, i_add] at e2
        rw [e, l_add] at e1
        refine hB (by omega) _ ?_
        rw [e1, e2, rkC_s]
      refine ⟨fun h2 => fin _ (by rw [if_neg h2]; rfl), fun h2 => ?_⟩
      rw [i_cl (by omega)]
      exact ⟨i_in (by omega) (by omega), fin _ (by rw [if_pos h2]; exact g1 m (by omega))⟩
  unfold wm_X12_rooksOf wc_X12_rooksOf_2
  refine lp_inv (fun m s => ∃ z', s = (nI m, z') ∧ fr [(3, 54), (3, 55)] z z' ∧ ∀ i, i < m → tq_al z' 54 i = lN (rkW S 0 i)) 256 ?_ ⟨z, rfl, fr_r, fun i hi => by omega⟩
  rintro m s hm ⟨z1, rfl, f1, g1⟩ B hB
  simp only
  unfold wb_X12_rooksOf_2
  rw [i_256, i_0, i_eq (by omega) (by omega)]
  refine ⟨fun h1 => ?_, fun h1 => ?_⟩
  · rw [i_le (by omega) (by omega)] at h1
    have : m = 256 := by omega
    subst this
    unfold wc_X12_rooksOf_30 wc_X12_rooksOf_32
    refine lp_inv (fun y s => ∃ z', s = (nI y, z') ∧ fr [(3, 54), (3, 55)] z z' ∧ ∀ i, i < 256 → tq_al z' 54 i = lN (rkW S y i)) h ?_ ⟨z1, rfl, f1, g1⟩
    rintro y s hyh ⟨z2, rfl, f2, g2⟩ B1 hB1
    simp only
    have j2 := jr_f f2 (by decide) (by decide) (by decide) (by decide) hj
    unfold wb_X12_rooksOf_32
    rw [j2.1.2.1]
    refine ⟨fun h2 => ?_, fun h2 => ?_⟩
    · rw [i_le (by omega) (by omega)] at h2
      have : y = h := by omega
      subst this
      exact last z2 f2 g2
    · rw [i_le (by omega) (by omega)] at h2
      have hy : y < h := by omega
      unfold wc_X12_rooksOf_42
      refine lp_inv (fun m s => ∃ z', s = (nI m, z') ∧ fr [(3, 55)] z2 z' ∧ ∀ i, i < m → tq_al z' 55 i = tq_al z2 54 i) 256 ?_ ⟨z2, rfl, fr_r, fun i hi => by omega⟩
      rintro m s hm2 ⟨z3, rfl, f3, g3⟩ B2 hB2
      simp only
      unfold wb_X12_rooksOf_42
      rw [i_256]
      refine ⟨fun h3 => ?_, fun h3 => ?_⟩
      · rw [i_le (by omega) (by omega)] at h3
        have : m = 256 := by omega
        subst this
        have a54 : ∀ {z'}, fr [(3, 55)] z2 z' → ∀ i, i < 256 → tq_al z' 54 i = lN (rkW S y i) := fun f i hi => by rw [fr_al f (by decide)]; exact g2 i hi
        unfold wc_X12_rooksOf_67 wc_X12_rooksOf_69
        refine lp_inv (fun j t => ∃ z', t = (nI j, z') ∧ fr [(3, 55)] z2 z' ∧ ∀ m, m < 256 → tq_al z' 55 m = lN (rkP S y (rkW S y) (fun a _ => decide (a < j)) m)) 256 ?_ ⟨z3, rfl, f3, fun i hi => by
          rw [g3 i hi, g2 i hi, rkP_0 (fun x hx q => by simp)]⟩
        rintro j t hj5 ⟨z4, rfl, f4, g4⟩ B3 hB3
        simp only
        unfold wb_X12_rooksOf_69
        rw [i_256]
        refine ⟨fun h4 => ?_, fun h4 => ?_⟩
        · rw [i_le (by omega) (by omega)] at h4
          have : j = 256 := by omega
          subst this
          unfold wc_X12_rooksOf_144 wc_X12_rooksOf_146
          refine lp_inv (fun m s => ∃ z', s = (nI m, z') ∧ fr [(3, 54)] z4 z' ∧ ∀ i, i < m → tq_al z' 54 i = tq_al z4 55 i) 256 ?_ ⟨z4, rfl, fr_r, fun i hi => by omega⟩
          rintro m s hm6 ⟨z5, rfl, f5, g5⟩ B4 hB4
          simp only
          unfold wb_X12_rooksOf_146
          rw [i_256]
          refine ⟨fun h5 => ?_, fun h5 => ?_⟩
          · rw [i_le (by omega) (by omega)] at h5
            have : m = 256 := by omega
            subst this
            unfold wc_X12_rooksOf_171
            intro v e
            rw [i_1, i_add] at e
            subst e
            refine hB1 hy _ ⟨z5, rfl, fr_t f2 (fr_t (fr_m (by decide) f4) (fr_m (by decide) f5)), fun i hi => ?_⟩
            rw [g5 i hi, g4 i hi]
            show _ = lN (rkP S y (rkW S y) (fun _ _ => true) i)
            congr 1
            refine rkP_c (fun x hx _ _ => Or.inl (decide_eq_true ?_))
            have : i ^^^ 2 ^ x < 2 ^ 8 := Nat.xor_lt_two_pow (by omega) (Nat.pow_lt_pow_right (by omega) hx)
            omega
          · rw [i_le (by omega) (by omega)] at h5
            rw [i_cl (by omega)]
            refine ⟨i_in (by omega) (by omega), i_in (by omega) (by omega), fun z6 e6 v e => ?_⟩
            rw [i_1, i_add] at e
            subst e
            refine hB4 (by omega) _ ⟨z6, rfl, by rw [e6]; exact fr_sal (by decide) f5, fun i hi => ?_⟩
            rw [e6, rw_ale, rw_updL]
            by_cases q : i = m
            · rw [if_pos q, q, fr_al f5 (by decide)]
            · rw [if_neg q]; exact g5 i (by omega)
        · rw [i_le (by omega) (by omega)] at h4
          unfold wc_X12_rooksOf_79
          refine lp_inv (fun x t => ∃ z', t = (nI x, z') ∧ fr [(3, 55)] z2 z' ∧ ∀ m, m < 256 → tq_al z' 55 m = lN (rkP S y (rkW S y) (fun a b => decide (a < j) || (decide (a = j) && decide (b < x))) m)) w ?_ ⟨z4, rfl, f4, fun m hm => by
            rw [g4 m hm]
            congr 1
            exact rkP_c (fun x _ _ _ => Or.inl (by simp))⟩
          rintro x t hxw ⟨z6, rfl, f6, g6⟩ B4 hB4
          simp only
          have j6 := jr_f f6 (by decide) (by decide) (by decide) (by decide) j2
          unfold wb_X12_rooksOf_79
          rw [j6.1.1]
          refine ⟨fun h5 => ?_, fun h5 => ?_⟩
          · rw [i_le (by omega) (by omega)] at h5
            unfold wc_X12_rooksOf_138
            intro v e
            rw [i_1, i_add] at e
            subst e
            refine hB3 (by omega) _ ⟨z6, rfl, f6, fun m hm => ?_⟩
            rw [g6 m hm]
            congr 1
            refine rkP_c (fun x' hx' _ hs => Or.inl ?_)
            have hxx := (hd.2.2.2.2.2 _ hs).2.1
            by_cases q : m ^^^ 2 ^ x' = j
            · rw [decide_eq_true q, decide_eq_true (by omega : x' < x), decide_eq_true (by omega : m ^^^ 2 ^ x' < j + 1)]; simp
            · rw [decide_eq_false q, Bool.false_and, Bool.or_false]
              exact dq_lt (by omega)
          · rw [i_le (by omega) (by omega)] at h5
            have hx : x < w := by omega
            rw [i_8, pk_mul, i_add, i_cl (by omega), j6.2 _ (by omega), bi_0]
            have dd : ∀ a b, (decide (a < j) || (decide (a = j) && decide (b < x + 1))) = ((decide (a < j) || (decide (a = j) && decide (b < x))) || (decide (a = j) && decide (b = x))) := by
              intro a b
              have : (b < x + 1) ↔ (b < x ∨ b = x) := by omega
              by_cases q1 : a = j <;> by_cases q2 : b < x <;> by_cases q3 : b = x <;> simp [q1, q2, q3] <;> omega
            have st := fun m => rkP_s (S := S) (y := y) (W := rkW S y) (d := fun a b => decide (a < j) || (decide (a = j) && decide (b < x))) (d' := fun a b => decide (a < j) || (decide (a = j) && decide (b < x + 1))) (m := j) (x := x) (k := m) (by omega) (by simp) dd
            have skip : ¬ (j.testBit x = false ∧ S (8 * y + x) = true) → wc_X12_rooksOf_132 (fun b2 z => B1 (b2, z)) (fun b3 z => B3 (b3, z)) (fun b4 z => B4 (b4, z)) Q (nI k0) (nI y) (nI j) (nI x) z6 := by
              intro u
              unfold wc_X12_rooksOf_132
              intro v e
              rw [i_1, i_add] at e
              subst e
              refine hB4 hx _ ⟨z6, rfl, f6, fun m hm => ?_⟩
              rw [g6 m hm, st m, if_neg (fun v => u v.2), Nat.add_zero]
            refine ⟨i_in (by omega) (by omega), fun h6 => skip (fun u => by rw [h6] at u; exact Bool.false_ne_true u.2), fun h6 => ?_⟩
            rw [i_tb (by omega) (by omega)]
            have hS : S (8 * y + x) = true := by
              cases q : S (8 * y + x)
              · exact absurd q h6
              · rfl
            cases hb : j.testBit x with
            | true =>
              exact ⟨fun _ => skip (fun u => by rw [hb] at u; exact Bool.false_ne_true u.1.symm), fun h7 => absurd h7 (by decide +kernel)⟩
            | false =>
              refine ⟨fun h7 => absurd rfl h7, fun _ => ?_⟩
              have lt : j ||| 2 ^ x < 256 := Nat.or_lt_two_pow (n := 8) (by omega) (Nat.pow_lt_pow_right (by omega) (by omega))
              rw [i_pw (by omega), i_or, i_cl (by omega), i_cl (by omega), a54 f6 j (by omega)]
              refine ⟨i_in lt (by omega), i_in (by omega) (by omega), i_in lt (by omega), fun z7 e7 => ?_⟩
              unfold wc_X12_rooksOf_132
              intro v e
              rw [i_1, i_add] at e
              subst e
              refine hB4 hx _ ⟨z7, rfl, by rw [e7]; exact fr_sal (by decide) f6, fun m hm => ?_⟩
              rw [e7, rw_ale, rw_updL, st m]
              by_cases q : m = j ||| 2 ^ x
              · rw [if_pos q, if_pos ⟨q, hb, hS⟩, ← l_add, q, g6 _ lt]
              · rw [if_neg q, if_neg (fun u => q u.1), Nat.add_zero]; exact g6 m hm
      · rw [i_le (by omega) (by omega)] at h3
        rw [i_cl (by omega)]
        refine ⟨i_in (by omega) (by omega), i_in (by omega) (by omega), fun z6 e6 v e => ?_⟩
        rw [i_1, i_add] at e
        subst e
        refine hB2 (by omega) _ ⟨z6, rfl, by rw [e6]; exact fr_sal (by decide) f3, fun i hi => ?_⟩
        rw [e6, rw_ale, rw_updL]
        by_cases q : i = m
        · rw [if_pos q, q, fr_al f3 (by decide)]
        · rw [if_neg q]; exact g3 i (by omega)
  · rw [i_le (by omega) (by omega)] at h1
    have fin : ∀ v, v = lN (rkW S 0 m) → wc_X12_rooksOf_23 (fun b2 z => B (b2, z)) Q (nI k0) (nI m) v (nI m) z1 := by
      intro v e
      unfold wc_X12_rooksOf_23
      rw [i_cl (by omega)]
      refine ⟨i_in (by omega) (by omega), fun z6 e6 v1 e1 => ?_⟩
      rw [i_1, i_add] at e1
      subst e1
      refine hB (by omega) _ ⟨z6, rfl, by rw [e6]; exact fr_sal (by decide) f1, fun i hi => ?_⟩
      rw [e6, rw_ale, rw_updL]
      by_cases q : i = m
      · rw [if_pos q, q]; exact e
      · rw [if_neg q]; exact g1 i (by omega)
    refine ⟨fun h2 => fin _ ?_, fun h2 => fin _ ?_⟩
    · show _ = lN (if m = 0 then 1 else 0)
      rw [if_neg h2]; rfl
    · show _ = lN (if m = 0 then 1 else 0)
      rw [if_pos h2]; rfl
end ROOKS2
