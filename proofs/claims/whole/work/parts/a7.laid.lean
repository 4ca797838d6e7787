/-! ===== exact covers: the reference's places ===== -/
section RPL
variable {w h : Nat} {r : Bool} {S : Nat → Bool} {z : tq_S} {Q : tq_O → tq_S → Prop}
/-- the cells whose numbers are in m -/
def exP (S : Nat → Bool) (m : Nat) (X : Int64) : Prop := ∀ c, c < 64 → ct X c = (S c && m.testBit (fb_ct S c))
theorem exP_1 {m : Nat} {X Y : Int64} (h1 : exP S m X) (h2 : exP S m Y) : X = Y := ct_ext fun i hi => by rw [h1 i hi, h2 i hi]
theorem exP_k {m : Nat} {X : Int64} (hx : exP S m X) {b : Nat} (hb : b < fb_ct S 64) : ct X (kth S b) = m.testBit b := by
  obtain ⟨k1, k2, k3⟩ := kth_ok (p := S) hb
  rw [hx _ k1, k2, k3, Bool.true_and]
theorem tb_in {m n b : Nat} (hm : m < 2 ^ n) (hb : m.testBit b = true) : b < n := by
  refine Nat.lt_of_not_le fun u => ?_
  rw [Nat.testBit_lt_two_pow (Nat.lt_of_lt_of_le hm (Nat.pow_le_pow_right (by decide) u))] at hb
  cases hb
theorem exP_m {m m' : Nat} {X : Int64} (h1 : exP S m X) (h2 : exP S m' X) (hm : m < 2 ^ fb_ct S 64) (hm' : m' < 2 ^ fb_ct S 64) : m = m' := by
  refine Nat.eq_of_testBit_eq fun b => ?_
  by_cases q : b < fb_ct S 64
  · rw [← exP_k h1 q, ← exP_k h2 q]
  · have l := Nat.pow_le_pow_right (n := 2) (by decide) (show fb_ct S 64 ≤ b by omega)
    rw [Nat.testBit_lt_two_pow (by omega), Nat.testBit_lt_two_pow (by omega)]
theorem kth_mono {p : Nat → Bool} {a b : Nat} (hb : b < fb_ct p 64) (hab : a < b) : kth p a < kth p b := by
  obtain ⟨a1, a2, a3⟩ := kth_ok (p := p) (k := a) (by omega)
  obtain ⟨b1, b2, b3⟩ := kth_ok (p := p) hb
  refine Nat.lt_of_not_le fun u => ?_
  have := fb_ct_mono p u
  omega
theorem idx_lt {c c' : Nat} (hS : S c = true) (h : c < c') : fb_ct S c < fb_ct S c' := ct_in h hS
theorem exP_a {m m' : Nat} {X Y : Int64} (h1 : exP S m X) (h2 : exP S m' Y) (hm : m < 2 ^ fb_ct S 64) : (∃ c, c < 64 ∧ ct X c = true ∧ ct Y c = false ∧ ∀ j, j < c → ct X j = ct Y j) ↔ ahd m m' := by
  constructor
  · rintro ⟨c, c1, c2, c3, c4⟩
    rw [h1 c c1, Bool.and_eq_true] at c2
    rw [h2 c c1, c2.1, Bool.true_and] at c3
    refine ⟨fb_ct S c, c2.2, c3, fun j hj => ?_⟩
    have jn : j < fb_ct S 64 := by
      have := ct_in c1 c2.1; omega
    have kj : kth S j < c := by
      refine Nat.lt_of_not_le fun u => ?_
      have := fb_ct_mono S u
      have k3 := (kth_ok (p := S) jn).2.2
      omega
    rw [← exP_k h1 jn, ← exP_k h2 jn]
    exact c4 _ kj
  · rintro ⟨b, b1, b2, b3⟩
    have bn := tb_in hm b1
    obtain ⟨k1, k2, k3⟩ := kth_ok (p := S) bn
    refine ⟨kth S b, k1, by rw [exP_k h1 bn]; exact b1, by rw [exP_k h2 bn]; exact b2, fun j hj => ?_⟩
    rw [h1 j (by omega), h2 j (by omega)]
    cases e : S j
    · rfl
    · have := idx_lt e hj
      rw [k3] at this
      rw [b3 _ this]
theorem sq_rAhead {m m' : Nat} {X Y : Int64} (h1 : exP S m X) (h2 : exP S m' Y) (hm : m < 2 ^ fb_ct S 64) (k0 : ¬ ahd m m' → Q (.inl (some (.int 0))) z) (k1 : ahd m m' → Q (.inl (some (.int 1))) z) : wm_X12_isAhead X Y z Q := by
  have bit : ∀ i, ct ((X &&& (X ^^^ Y)) &&& (-(X ^^^ Y))) i = (ct X i && ((ct X i ^^ ct Y i) && decide (∀ j, j < i → (ct X j ^^ ct Y j) = false))) := fun i => by
    have e := ct_low (X ^^^ Y) i
    rw [ct_and] at e
    rw [ct_and, ct_and, Bool.and_assoc, e, ct_xor]
    congr 2
    exact decide_eq_decide.mpr ⟨fun u j hj => by rw [← ct_xor]; exact u j hj, fun u j hj => by rw [ct_xor]; exact u j hj⟩
  have key : (∃ i, i < 64 ∧ ct ((X &&& (X ^^^ Y)) &&& (-(X ^^^ Y))) i = true) ↔ ahd m m' := by
    rw [← exP_a h1 h2 hm]
    constructor
    · rintro ⟨i, i64, e⟩
      rw [bit] at e
      simp only [Bool.and_eq_true, decide_eq_true_eq] at e
      obtain ⟨e1, e2, e3⟩ := e
      refine ⟨i, i64, e1, ?_, fun j hj => ?_⟩
      · rw [e1] at e2
        cases q : ct Y i
        · rfl
        · rw [q] at e2; cases e2
      · have := e3 j hj
        cases a : ct X j <;> cases b : ct Y j <;> rw [a, b] at this
        all_goals exact absurd this (by decide)
    · rintro ⟨c, c1, c2, c3, c4⟩
      refine ⟨c, c1, ?_⟩
      rw [bit, c2, c3]
      refine decide_eq_true fun j hj => ?_
      rw [c4 j hj, Bool.xor_self]
  unfold wm_X12_isAhead
  intro v e
  subst e
  refine ⟨fun q => k0 fun u => ?_, fun _ => ⟨fun q => k0 fun u => ?_, fun q => k1 (key.mp (ct_ne.mp q))⟩⟩
  · obtain ⟨i, i1, i2⟩ := key.mpr u
    rw [bit, ← ct_xor, q, ct_0] at i2
    rw [Bool.false_and, Bool.and_false] at i2; cases i2
  · obtain ⟨i, i1, i2⟩ := key.mpr u
    rw [q, ct_0] at i2; cases i2
theorem sq_lowestL {X : Int64} {l : Nat} (hl : l < 64) (h1 : ct X l = true) (h2 : ∀ j, j < l → ct X j = false) (kk : Q (.inl (some (.int (nI l)))) z) : wm_X12_lowest X z Q := by
  unfold wm_X12_lowest wc_X12_lowest_2
  refine lp_inv (fun i st => st = (nI i, z)) l ?_ rfl
  rintro i st hi rfl B hB
  simp only
  unfold wb_X12_lowest_2
  rw [ct_t1 (by omega)]
  refine ⟨fun q => ?_, fun q v e => ?_⟩
  · by_cases u : i = l
    · rw [u]; exact kk
    · exact absurd (h2 i (by omega)) q
  · rw [i_1, i_add] at e
    subst e
    by_cases u : i = l
    · rw [u, h1] at q; cases q
    · exact hB (by omega) _ rfl
theorem sq_laid {s : Int64} {dx dy : Nat} (hd : jd w h r S) (hj : jr w h r S z) (hs : wS s) (hdx : dx < 8) (hdy : dy < 8) (h24 : fb_ct S 64 ≤ 24) (k0 : cvF w r S s dx dy 0 0 36 = none → Q (.inl (some (.long 0))) z) (k1 : ∀ m X, cvF w r S s dx dy 0 0 36 = some m → exP S m X → Q (.inl (some (.long X))) z) : wm_X12_laid s (nI dx) (nI dy) z Q := by
  have hw1 := hd.1
  have hw8 := hd.2.1
  have hh1 := hd.2.2.1
  have hh8 := hd.2.2.2.1
  unfold wm_X12_laid wc_X12_laid_6
  refine lp_inv (fun i st => ∃ m X, cvF w r S s dx dy 0 0 i = some m ∧ exP S m X ∧ st = (X, nI i, z)) 36 ?_ ⟨0, 0, rfl, fun c _ => by rw [ct_0, Nat.zero_testBit, Bool.and_false], rfl⟩
  rintro i st hi ⟨m, X, hm, hX, rfl⟩ B hB
  simp only
  unfold wb_X12_laid_6
  rw [i_36, i_le (by omega) (by omega)]
  refine ⟨fun q => ?_, fun q => ?_⟩
  · have : i = 36 := by omega
    subst this
    exact k1 m X hm hX
  have i36 : i < 36 := by omega
  have stp : cvF w r S s dx dy 0 0 (i + 1) = if ct s i = true then (if cvi w r S dx dy 0 i < ((0 : Nat) : Int) ∨ m.testBit (cvi w r S dx dy 0 i).toNat = true then none else some (m ||| 2 ^ (cvi w r S dx dy 0 i).toNat)) else some m := by
    rw [cvF_s, hm]
  have none0 : cvF w r S s dx dy 0 0 (i + 1) = none → Q (.inl (some (.long 0))) z := fun e0 => by
    have := cvF_n e0 (35 - i)
    rw [show i + 1 + (35 - i) = 36 by omega] at this
    exact k0 this
  have nx : ∀ m' X', cvF w r S s dx dy 0 0 (i + 1) = some m' → exP S m' X' → wc_X12_laid_110 (fun b5 b7 z => B (b5, b7, z)) Q s (nI dx) (nI dy) X' (nI i) z := by
    intro m' X' hm' hX'
    unfold wc_X12_laid_110
    intro v e
    rw [i_1, i_add] at e
    subst e
    exact hB i36 _ ⟨m', X', hm', hX', rfl⟩
  rw [ct_s1 hs (by omega)]
  refine ⟨fun e => nx m X (by rw [stp, if_neg e]) hX, fun e v1 e1 v2 e2 => ?_⟩
  rw [if_pos e] at stp
  have q6 : nI i - nI i / (6 : Int32) * (6 : Int32) = nI (i % 6) := by rw [i_6]; exact pk_rem (by omega) (by omega) (by omega)
  have d6 : nI i / (6 : Int32) = nI (i / 6) := by rw [i_6]; exact pk_div (by omega) (by omega) (by omega)
  rw [q6, i_add] at e1
  rw [d6, i_add] at e2
  subst e1
  subst e2
  have main : ∀ x : Nat, x < 16 → (x : Int) = cpx w r dx 0 (i % 6) → wc_X12_laid_62 (fun b5 b7 z => B (b5, b7, z)) Q s (nI dx) (nI dy) X (nI i) (nI (dy + i / 6)) (nI x) z := by
    intro x hx hcx
    unfold wc_X12_laid_62
    have cv : cvi w r S dx dy 0 i = cix S ((x : Nat) : Int) ((dy + i / 6 : Nat) : Int) := by unfold cvi; rw [hcx]
    refine sq_isCell hw1 hw8 hh1 hh8 hj ⟨_, rfl, fun u => ?_, fun u => ?_⟩
    · rw [bi_0, ho_n (by omega) (by omega)] at u
      refine none0 ?_
      rw [stp, cv, if_pos (Or.inl ?_)]
      unfold cix
      rw [if_neg, show ((0 : Nat) : Int) = 0 from rfl]
      · omega
      · rintro ⟨x1, x2, x3, x4, x5⟩
        rw [Int.toNat_natCast, Int.toNat_natCast] at x5
        have rr := hd.2.2.2.2.2 _ x5
        rw [decide_eq_true (show x < w by omega), decide_eq_true (show dy + i / 6 < h by omega), x5] at u
        cases u
    · rw [bi_n, ho_n (by omega) (by omega)] at u
      simp only [Bool.and_eq_true, decide_eq_true_eq] at u
      obtain ⟨⟨u1, u2⟩, u3⟩ := u
      have cv2 : cvi w r S dx dy 0 i = ((fb_ct S (8 * (dy + i / 6) + x) : Nat) : Int) := by
        rw [cv]
        unfold cix
        rw [Int.toNat_natCast, Int.toNat_natCast, if_pos ⟨by omega, by omega, by omega, by omega, u3⟩]
      rw [cv2, Int.toNat_natCast] at stp
      have c64 : 8 * (dy + i / 6) + x < 64 := by omega
      rw [i_8, pk_mul, i_add]
      have tst : ((((Int64.toUInt64 X) >>> ((Int32.toInt64 (nI (8 * (dy + i / 6) + x))).toUInt64 &&& Int64.toUInt64 63)).toInt64 &&& (1 : Int64)) = 1) ↔ m.testBit (fb_ct S (8 * (dy + i / 6) + x)) = true := by
        have e3 := hX _ c64
        rw [u3, Bool.true_and] at e3
        rw [← e3]
        constructor
        · intro u4
          cases q2 : ct X (8 * (dy + i / 6) + x)
          · have := (ct_t1 c64).mpr q2
            rw [this] at u4
            exact absurd u4 (by decide +kernel)
          · rfl
        · intro u4
          refine ct_ext fun b hb => ?_
          rw [ct_and1, ct_shr _ _ c64, Nat.add_zero, u4, ct_1, Bool.and_true]
      rw [tst]
      refine ⟨fun u4 v3 e3 => ?_, fun u4 => none0 ?_⟩
      · refine nx (m ||| 2 ^ fb_ct S (8 * (dy + i / 6) + x)) v3 ?_ ?_
        · rw [stp, if_neg (fun a => a.elim (fun b => by omega) (fun b => u4 b))]
        · intro c hc
          rw [e3, ct_or, ct_bit c c64, hX c hc, tb_set]
          by_cases q3 : c = 8 * (dy + i / 6) + x
          · rw [q3, u3, decide_eq_true rfl, decide_eq_true rfl, Bool.or_true, Bool.or_true]; rfl
          · rw [decide_eq_false q3, Bool.or_false]
            cases q4 : S c
            · rfl
            · have ne : fb_ct S c ≠ fb_ct S (8 * (dy + i / 6) + x) := fun a => q3 (fb_ct_kth_one q4 u3 a)
              rw [decide_eq_false ne, Bool.or_false]
      · rw [stp, if_pos (Or.inr u4)]
  rw [hj.1.2.2, hj.1.1]
  refine ⟨fun u => main _ (by omega) ?_, fun u => ⟨?_, ?_⟩⟩
  · have hr : ¬ r = true := fun e => by rw [if_pos e] at u; exact absurd u (by decide +kernel)
    unfold cpx
    rw [if_neg hr]; omega
  · rw [show (0 : Int32) = nI 0 from rfl, i_eq (by omega) (by omega)]; omega
  · have hr : r = true := Classical.byContradiction fun e => u (by rw [if_neg e]; rfl)
    rw [pk_rem (by omega) (by omega) (by omega)]
    have ml := Nat.mod_lt (dx + i % 6) (show 0 < w by omega)
    refine main _ (by omega) ?_
    unfold cpx
    rw [if_pos hr, show (dx : Int) - ((0 : Nat) : Int) + ((i % 6 : Nat) : Int) = ((dx + i % 6 : Nat) : Int) by omega]
    exact Int.natCast_emod _ _
end RPL
