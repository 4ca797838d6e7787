/-! ===== the cover that is there: signs, cuts, flips ===== -/
def cvo (w : Nat) (r : Bool) (S : Nat → Bool) (p : Nat → Nat) (R D : Int64) : Prop := pc w r S p ∧ (∀ j, ct R j = (S j && Rp w r p j)) ∧ ∀ j, ct D j = (S j && Dp p j)
/-- the cell on the right, round at the end -/
def bb (w c : Nat) : Nat := if c % 8 + 1 < w then c + 1 else c - (w - 1)
section RD
variable {w : Nat} {r : Bool} {p : Nat → Nat} {j c : Nat}
theorem Rp_d (hw1 : 1 ≤ w) (e : p j = j + 8) : Rp w r p j = false := by
  unfold Rp; rw [e, decide_eq_false (by omega : ¬ j + 8 = j + 1), decide_eq_false (by omega : ¬ j + 8 + (w - 1) = j)]; simp
theorem Rp_u (hw : w ≤ 8) (e : p j + 8 = j) : Rp w r p j = false := by
  unfold Rp; rw [decide_eq_false (by omega : ¬ p j = j + 1), decide_eq_false (by omega : ¬ p j + (w - 1) = j)]; simp
theorem Rp_b (hj : j % 8 < w) (hr : j % 8 + 1 < w ∨ r = true) (e : p j = bb w j) : Rp w r p j = true := by
  unfold Rp; unfold bb at e
  by_cases q : j % 8 + 1 < w
  · rw [if_pos q] at e
    rw [decide_eq_true q, e, decide_eq_true rfl]; rfl
  · rw [if_neg q] at e
    have hr := hr.resolve_left q
    rw [hr, e, decide_eq_true (by omega : j % 8 = w - 1), decide_eq_true (by omega : j - (w - 1) + (w - 1) = j)]; simp
theorem Rp_bb (hr4 : r = true → 4 ≤ w) (hc : c % 8 < w) (hr : c % 8 + 1 < w ∨ r = true) (e : p (bb w c) = c) : Rp w r p (bb w c) = false := by
  unfold Rp; rw [e]; unfold bb
  by_cases q : c % 8 + 1 < w
  · rw [if_pos q, decide_eq_false (by omega : ¬ c = c + 1 + 1)]
    cases h : r
    · simp
    · have := hr4 h
      rw [decide_eq_false (by omega : ¬ c + (w - 1) = c + 1)]; simp
  · have h := hr.resolve_left q
    have := hr4 h
    rw [if_neg q, decide_eq_false (by omega : ¬ c = c - (w - 1) + 1), decide_eq_false (by omega : ¬ c + (w - 1) = c - (w - 1))]; simp
theorem Dp_d (e : p j = j + 8) : Dp p j = true := by unfold Dp; rw [e, decide_eq_true rfl]
theorem Dp_u (e : p j + 8 = j) : Dp p j = false := by unfold Dp; rw [decide_eq_false (by omega)]
theorem Dp_b (e : p j = bb w j) : Dp p j = false := by
  unfold Dp; unfold bb at e; rw [decide_eq_false]
  split at e <;> omega
theorem Dp_bb (hw : w ≤ 8) (e : p (bb w c) = c) : Dp p (bb w c) = false := by
  unfold Dp; rw [e, decide_eq_false]; unfold bb
  split <;> omega
theorem Rp_iff (hj : j % 8 < w) (hr : j % 8 + 1 < w ∨ r = true) : Rp w r p j = true ↔ p j = bb w j := by
  refine ⟨fun q => ?_, fun q => Rp_b hj hr q⟩
  unfold Rp at q
  unfold bb
  simp only [Bool.or_eq_true, Bool.and_eq_true, decide_eq_true_eq] at q
  rcases q with q | q
  · rw [if_pos q.1]; exact q.2
  · rw [if_neg (by omega)]; omega
end RD
section COV
variable {w h : Nat} {r : Bool} {S : Nat → Bool} {z : tq_S} {Q : tq_O → tq_S → Prop} {p : Nat → Nat}
theorem ct_tb {C : Int64} {a : Nat} (ha : a < 64) : ((C &&& ((1 : Int64) <<< ((Int32.toInt64 (nI a)) &&& 63))) = (0 : Int64)) ↔ ct C a = false := by
  rw [ct_n0]
  constructor
  · intro q
    have := q a ha
    rw [ct_and, ct_bit _ ha, decide_eq_true rfl, Bool.and_true] at this
    exact this
  · intro q j _
    rw [ct_and, ct_bit _ ha]
    by_cases e : j = a
    · rw [e, q]; rfl
    · rw [decide_eq_false e, Bool.and_false]
/-! cuts -/
def vcut (w h : Nat) (r : Bool) (S : Nat → Bool) (p : Nat → Nat) (x : Nat) : Bool := decide (∀ y, y < h → (S (8 * y + x) && Rp w r p (8 * y + x)) = false)
def hcut (w : Nat) (S : Nat → Bool) (p : Nat → Nat) (y : Nat) : Bool := decide (∀ x, x < w → (S (8 * y + x) && Dp p (8 * y + x)) = false)
def cutn (w h : Nat) (r : Bool) (S : Nat → Bool) (p : Nat → Nat) : Nat := fb_ct (vcut w h r S p) (if r = true then w else w - 1) + fb_ct (hcut w S p) (h - 1)
theorem sq_ccuts (hd : jd w h r S) (hj : jc w h r S z) (hc : cvo w r S p (tq_fl z 517) (tq_fl z 518)) (k : Q (.inl (some (.int (nI (cutn w h r S p))))) z) : wm_X2_countCuts z Q := by
  have hw8 := hd.2.1
  have hw1 := hd.1
  have hh8 := hd.2.2.2.1
  have hh1 := hd.2.2.1
  have hS := hd.2.2.2.2.2
  obtain ⟨c1, c2, c3⟩ := hc
  have main : ∀ n, n ≤ 8 → n = (if r = true then w else w - 1) → wc_X2_countCuts_31 Q (0 : Int32) (nI n) z := by
    intro n hn8 hn
    rw [show cutn w h r S p = fb_ct (vcut w h r S p) n + fb_ct (hcut w S p) (h - 1) by unfold cutn; rw [hn]] at k
    have nw : n ≤ w := by rw [hn]; split <;> omega
    unfold wc_X2_countCuts_31 wc_X2_countCuts_34
    refine lp_for (fun x => (nI (fb_ct (vcut w h r S p) x), nI x, z)) n ?_ rfl
    intro x hx B hB
    simp only
    have b1 := fb_ct_le (vcut w h r S p) x
    unfold wb_X2_countCuts_34
    refine ⟨fun h1 => ?_, fun h1 => ?_⟩
    · rw [i_le (by omega) (by omega)] at h1
      have : x = n := by omega
      subst this
      unfold wc_X2_countCuts_68 wc_X2_countCuts_70
      refine lp_for (fun y => (nI (fb_ct (vcut w h r S p) x + fb_ct (hcut w S p) y), nI y, z)) (h - 1) ?_ rfl
      intro y hy B' hB'
      simp only
      unfold wb_X2_countCuts_70
      rw [hj.2.1, i_1, i_add]
      refine ⟨fun h2 => ?_, fun h2 => ?_⟩
      · rw [i_le (by omega) (by omega)] at h2
        have : y = h - 1 := by omega
        subst this; exact k
      · rw [i_le (by omega) (by omega)] at h2
        have hB' := hB' (by omega)
        rw [fb_ct_succ, ← Nat.add_assoc] at hB'
        have cond : ((tq_fl z 518 &&& ((255 : Int64) <<< ((Int32.toInt64 (nI (8 * y))) &&& 63))) = (0 : Int64)) ↔ hcut w S p y = true := by
          unfold hcut
          rw [decide_eq_true_eq, ct_n0]
          constructor
          · intro q x2 hx2
            have := q (8 * y + x2) (by omega)
            rw [ct_and, ct_shl _ _ (by omega), ct_255, c3, decide_eq_true (by omega : 8 * y + x2 < 64), decide_eq_true (by omega : 8 * y ≤ 8 * y + x2), decide_eq_true (by omega : 8 * y + x2 - 8 * y < 8)] at this
            simpa using this
          · intro q j hj64
            rw [ct_and, ct_shl _ _ (by omega), ct_255, c3]
            by_cases g : j / 8 = y
            · cases hs : S j
              · rfl
              · have h3 := hS j hs
                have e : 8 * y + j % 8 = j := by omega
                have := q (j % 8) h3.2.1
                rw [e, hs] at this
                rw [this]; rfl
            · by_cases g2 : 8 * y ≤ j
              · rw [decide_eq_false (by omega : ¬ j - 8 * y < 8)]; simp
              · rw [decide_eq_false g2]; simp
        rw [i_8, pk_mul]
        refine ⟨fun h3 => ?_, fun h3 => ?_⟩
        · rw [cond, Bool.not_eq_true] at h3
          rw [h3] at hB'
          unfold wc_X2_countCuts_107
          intro v1 e1 v2 e2
          rw [i_0, i_add] at e1
          rw [i_1, i_add] at e2
          rw [e1, e2]; exact hB'
        · rw [cond] at h3
          rw [h3] at hB'
          unfold wc_X2_countCuts_107
          intro v1 e1 v2 e2
          rw [i_add] at e1
          rw [i_1, i_add] at e2
          rw [e1, e2]; exact hB'
    · rw [i_le (by omega) (by omega)] at h1
      have hB := hB (by omega)
      rw [fb_ct_succ] at hB
      have cond : ((tq_fl z 517 &&& ((72340172838076673 : Int64) <<< ((Int32.toInt64 (nI x)) &&& 63))) = (0 : Int64)) ↔ vcut w h r S p x = true := by
        unfold vcut
        rw [decide_eq_true_eq, ct_n0]
        constructor
        · intro q y2 hy2
          have := q (8 * y2 + x) (by omega)
          have e : 8 * y2 + x - x = 8 * y2 := by omega
          rw [ct_and, ct_shl _ _ (by omega), c2, decide_eq_true (by omega : 8 * y2 + x < 64), decide_eq_true (by omega : x ≤ 8 * y2 + x), e, ct_co ⟨8 * y2, by omega⟩, decide_eq_true (show (⟨8 * y2, by omega⟩ : Fin 64).val % 8 = 0 by show 8 * y2 % 8 = 0; omega)] at this
          simpa using this
        · intro q j hj64
          rw [ct_and, ct_shl _ _ (by omega), c2]
          by_cases g : j % 8 = x
          · cases hs : S j
            · rfl
            · have h3 := hS j hs
              have e : 8 * (j / 8) + x = j := by omega
              have := q (j / 8) h3.2.2
              rw [e, hs] at this
              rw [this]; rfl
          · by_cases g2 : x ≤ j
            · rw [ct_co ⟨j - x, by omega⟩]
              cases hs : S j
              · rfl
              · have h3 := hS j hs
                rw [decide_eq_false (show ¬ (⟨j - x, by omega⟩ : Fin 64).val % 8 = 0 by show ¬ (j - x) % 8 = 0; omega)]; simp
            · rw [decide_eq_false g2]; simp
      refine ⟨fun h3 => ?_, fun h3 => ?_⟩
      · rw [cond, Bool.not_eq_true] at h3
        rw [h3] at hB
        unfold wc_X2_countCuts_60
        intro v1 e1 v2 e2
        rw [i_0, i_add] at e1
        rw [i_1, i_add] at e2
        rw [e1, e2]; exact hB
      · rw [cond] at h3
        rw [h3] at hB
        unfold wc_X2_countCuts_60
        intro v1 e1 v2 e2
        rw [i_1, i_add] at e1 e2
        rw [e1, e2]; exact hB
  unfold wm_X2_countCuts
  rw [hj.2.2.1, hj.1]
  refine ⟨fun h1 => ?_, fun h1 => ?_⟩
  · rw [bi_0] at h1
    rw [i_1, pk_sub hw1]
    exact main _ (by omega) (by rw [h1]; rfl)
  · rw [bi_n] at h1
    exact main w hw8 (by rw [h1, if_pos rfl])
/-! flips -/
def fq (w h : Nat) (r : Bool) (S : Nat → Bool) (p : Nat → Nat) (c : Nat) : Bool := decide (c % 8 < w) && decide (c / 8 + 1 < h) && (decide (c % 8 + 1 < w) || r) && (((S c && Rp w r p c) && (S (c + 8) && Rp w r p (c + 8))) || ((S c && Dp p c) && (S (bb w c) && Dp p (bb w c))))
theorem ct_two {C : Int64} {a b : Nat} (ha : a < 64) (hb : b < 64) : ((C &&& (((1 : Int64) <<< ((Int32.toInt64 (nI a)) &&& 63)) ||| ((1 : Int64) <<< ((Int32.toInt64 (nI b)) &&& 63)))) = (((1 : Int64) <<< ((Int32.toInt64 (nI a)) &&& 63)) ||| ((1 : Int64) <<< ((Int32.toInt64 (nI b)) &&& 63)))) ↔ (ct C a && ct C b) = true := by
  have g : ∀ j, ct (((1 : Int64) <<< ((Int32.toInt64 (nI a)) &&& 63)) ||| ((1 : Int64) <<< ((Int32.toInt64 (nI b)) &&& 63))) j = (decide (j = a) || decide (j = b)) := fun j => by rw [ct_or, ct_bit _ ha, ct_bit _ hb]
  constructor
  · intro q
    have q1 : ∀ j, (ct C j && (decide (j = a) || decide (j = b))) = (decide (j = a) || decide (j = b)) := fun j => by rw [← g, ← ct_and, q]
    have a1 := q1 a
    have b1 := q1 b
    rw [decide_eq_true (rfl : a = a)] at a1
    rw [decide_eq_true (rfl : b = b)] at b1
    simp at a1 b1
    rw [a1, b1]; rfl
  · intro q
    simp only [Bool.and_eq_true] at q
    refine ct_ext (fun j _ => ?_)
    rw [ct_and, g]
    by_cases e1 : j = a
    · rw [e1, q.1]; simp
    · by_cases e2 : j = b
      · rw [e2, q.2]; simp
      · rw [decide_eq_false e1, decide_eq_false e2]; simp
theorem sq_rightOf {a : Nat} (hd : jd w h r S) (hj : jc w h r S z) (ha : a < w) (k : Q (.inl (some (.int (if a + 1 < w then nI (a + 1) else if r = true then nI 0 else -1)))) z) : wm_X1_rightOf (nI a) z Q := by
  have hw8 := hd.2.1
  unfold wm_X1_rightOf
  rw [hj.1, hj.2.2.1, i_1, i_add]
  refine ⟨fun h1 => ⟨fun h2 => ?_, fun h2 => ?_⟩, fun h1 => ?_⟩
  · rw [i_le (by omega) (by omega)] at h1
    rw [bi_0] at h2
    rw [if_neg (by omega), h2, if_neg Bool.false_ne_true] at k; exact k
  · rw [i_le (by omega) (by omega)] at h1
    rw [bi_n] at h2
    rw [if_neg (by omega), if_pos h2] at k; exact k
  · rw [i_le (by omega) (by omega)] at h1
    rw [if_pos (by omega)] at k; exact k
theorem bb_c {a b : Nat} (ha : a < w) (hw : w ≤ 8) : bb w (8 * b + a) = 8 * b + (if a + 1 < w then a + 1 else 0) := by
  unfold bb
  have : (8 * b + a) % 8 = a := by omega
  rw [this]
  by_cases q : a + 1 < w
  · rw [if_pos q, if_pos q]; omega
  · rw [if_neg q, if_neg q]; omega
theorem sq_canFlip {a b : Nat} (hd : jd w h r S) (hj : jc w h r S z) (hc : cvo w r S p (tq_fl z 517) (tq_fl z 518)) (ha : a < w) (hb : b < h) (k : Q (.inl (some (.int (bi (fq w h r S p (8 * b + a)))))) z) : wm_X2_canFlip (nI a) (nI b) z Q := by
  have hw8 := hd.2.1
  have hh8 := hd.2.2.2.1
  obtain ⟨c1, c2, c3⟩ := hc
  have d1 : (8 * b + a) % 8 = a := by omega
  have d2 : (8 * b + a) / 8 = b := by omega
  have no : fq w h r S p (8 * b + a) = false → Q (.inl (some (.int (0 : Int32)))) z := fun e => by rw [e] at k; exact k
  unfold wm_X2_canFlip
  refine sq_rightOf hd hj ha ⟨_, rfl, ?_⟩
  by_cases hrr : a + 1 < w ∨ r = true
  · have e1 : (if a + 1 < w then nI (a + 1) else if r = true then nI 0 else (-1 : Int32)) = nI (if a + 1 < w then a + 1 else 0) := by
      by_cases q : a + 1 < w
      · rw [if_pos q, if_pos q]
      · rw [if_neg q, if_neg q, if_pos (hrr.resolve_left q)]
    rw [e1]
    have lt8 : (if a + 1 < w then a + 1 else 0) < 8 := by split <;> omega
    refine ⟨fun h1 => absurd h1 (i_n0 (by omega)), fun _ => ?_⟩
    rw [hj.2.1, i_1, i_add, i_lt (by omega) (by omega)]
    refine ⟨fun h2 => ?_, fun h2 => no ?_⟩
    · unfold wm_X2_acrossPair
      rw [i_1, i_add]
      refine sq_bit ⟨_, rfl, sq_bit ⟨_, rfl, ?_⟩⟩
      refine ⟨_, rfl, ?_⟩
      unfold wm_X2_downPair
      refine sq_bit ⟨_, rfl, sq_rightOf hd hj ha ⟨_, rfl, ?_⟩⟩
      rw [e1]
      refine sq_bit ⟨_, rfl, ?_⟩
      refine ⟨_, rfl, ?_⟩
      have t1 := ct_two (C := tq_fl z 517) (a := 8 * b + a) (b := 8 * (b + 1) + a) (by omega) (by omega)
      have t2 := ct_two (C := tq_fl z 518) (a := 8 * b + a) (b := 8 * b + (if a + 1 < w then a + 1 else 0)) (by omega) (by omega)
      rw [c2, c2] at t1
      rw [c3, c3] at t2
      have e8 : 8 * (b + 1) + a = 8 * b + a + 8 := by omega
      have ef : fq w h r S p (8 * b + a) = (((S (8 * b + a) && Rp w r p (8 * b + a)) && (S (8 * b + a + 8) && Rp w r p (8 * b + a + 8))) || ((S (8 * b + a) && Dp p (8 * b + a)) && (S (8 * b + (if a + 1 < w then a + 1 else 0)) && Dp p (8 * b + (if a + 1 < w then a + 1 else 0))))) := by
        unfold fq
        rw [d1, d2, bb_c ha hw8, decide_eq_true ha, decide_eq_true h2]
        have : (decide (a + 1 < w) || r) = true := by
          rcases hrr with q | q
          · rw [decide_eq_true q]; rfl
          · rw [q]; simp
        rw [this]; rfl
      rw [e8] at t1 ⊢
      rw [ef] at k
      refine ⟨fun g => ?_, fun g => ⟨fun g2 => ?_, fun g2 => ?_⟩⟩
      · rw [t1] at g
        rw [g] at k; exact k
      · rw [t1, Bool.not_eq_true] at g
        rw [t2, Bool.not_eq_true] at g2
        rw [g, g2] at k; exact k
      · rw [t1, Bool.not_eq_true] at g
        rw [t2] at g2
        rw [g, g2] at k; exact k
    · unfold fq; rw [d2, decide_eq_false h2]; simp
  · have e1 : (if a + 1 < w then nI (a + 1) else if r = true then nI 0 else (-1 : Int32)) = -1 := by
      rw [if_neg (fun u => hrr (Or.inl u)), if_neg (fun u => hrr (Or.inr u))]
    rw [e1]
    refine ⟨fun _ => no ?_, fun h1 => absurd (show (-1 : Int32) < 0 by decide +kernel) h1⟩
    have q1 : ¬ a + 1 < w := fun u => hrr (Or.inl u)
    have q2 : r = false := by
      cases hr : r
      · rfl
      · exact absurd (Or.inr hr) hrr
    unfold fq; rw [d1, decide_eq_false q1, q2]; simp
theorem fq_row {y : Nat} {g : Nat → Bool} (hw : w ≤ 8) (hg : ∀ c, g c = true → c % 8 < w) : fb_ct g (8 * (y + 1)) = fb_ct g (8 * y + w) := by
  have a1 : 8 * (y + 1) = (8 * y + w) + (8 - w) := by omega
  rw [a1, fb_ct_split]
  have : fb_ct (fun k => g (8 * y + w + k)) (8 - w) = 0 := by
    rw [fb_ct_zero]
    intro k hk
    cases hc : g (8 * y + w + k)
    · rfl
    · have := hg _ hc; omega
  rw [this]; rfl
theorem fq_end {g : Nat → Bool} (hh : h ≤ 8) (hg : ∀ c, g c = true → c / 8 < h) : fb_ct g 64 = fb_ct g (8 * h) := by
  have a1 : 64 = 8 * h + (64 - 8 * h) := by omega
  rw [a1, fb_ct_split]
  have : fb_ct (fun k => g (8 * h + k)) (64 - 8 * h) = 0 := by
    rw [fb_ct_zero]
    intro k hk
    cases hc : g (8 * h + k)
    · rfl
    · have := hg _ hc; omega
  rw [this]; rfl
theorem fq_w {c : Nat} (e : fq w h r S p c = true) : c % 8 < w ∧ c / 8 + 1 < h := by
  unfold fq at e
  simp only [Bool.and_eq_true, decide_eq_true_eq] at e
  exact e.1.1
theorem sq_cflips (hd : jd w h r S) (hj : jc w h r S z) (hc : cvo w r S p (tq_fl z 517) (tq_fl z 518)) (k : Q (.inl (some (.int (nI (fb_ct (fq w h r S p) 64))))) z) : wm_X2_countFlips z Q := by
  have hw8 := hd.2.1
  have hw1 := hd.1
  have hh8 := hd.2.2.2.1
  unfold wm_X2_countFlips wc_X2_countFlips_4
  refine lp_for (fun y => (nI (fb_ct (fq w h r S p) (8 * y)), nI y, z)) h ?_ rfl
  intro y hy B hB
  simp only
  have b1 := fb_ct_le (fq w h r S p) (8 * y)
  unfold wb_X2_countFlips_4
  rw [hj.2.1]
  refine ⟨fun h1 => ?_, fun h1 => ?_⟩
  · rw [i_le (by omega) (by omega)] at h1
    have : y = h := by omega
    subst this
    rw [fq_end hh8 (fun c e => by have := fq_w e; omega)] at k
    exact k
  · rw [i_le (by omega) (by omega)] at h1
    have hB := hB (by omega)
    rw [fq_row hw8 (fun c e => (fq_w e).1)] at hB
    unfold wc_X2_countFlips_17
    refine lp_for (fun x => (nI (fb_ct (fq w h r S p) (8 * y + x)), nI x, z)) w ?_ rfl
    intro x hx B' hB'
    simp only
    unfold wb_X2_countFlips_17
    rw [hj.1]
    refine ⟨fun h2 => ?_, fun h2 => ?_⟩
    · rw [i_le (by omega) (by omega)] at h2
      have : x = w := by omega
      subst this
      unfold wc_X2_countFlips_51
      intro v e
      rw [i_1, i_add] at e
      rw [e]; exact hB
    · rw [i_le (by omega) (by omega)] at h2
      have hB' := hB' (by omega)
      rw [← Nat.add_assoc, fb_ct_succ] at hB'
      refine sq_canFlip hd hj hc (by omega) (by omega) ⟨_, rfl, fun h3 => ?_, fun h3 => ?_⟩
      · rw [bi_0] at h3
        rw [h3] at hB'
        unfold wc_X2_countFlips_43
        intro v1 e1 v2 e2
        rw [i_0, i_add] at e1
        rw [i_1, i_add] at e2
        rw [e1, e2]; exact hB'
      · rw [bi_n] at h3
        rw [h3] at hB'
        unfold wc_X2_countFlips_43
        intro v1 e1 v2 e2
        rw [i_1, i_add] at e1 e2
        rw [e1, e2]; exact hB'
theorem sq_squareOf {idx : Int32} (hd : jd w h r S) (hj : jc w h r S z) (hc : cvo w r S p (tq_fl z 517) (tq_fl z 518)) (k0 : (∀ n : Nat, n < 2147483648 → idx = nI n → fb_ct (fq w h r S p) 64 ≤ n) → Q (.inl (some (.int (-1)))) z) (k1 : ∀ c, c < 64 → fq w h r S p c = true → idx = nI (fb_ct (fq w h r S p) c) → Q (.inl (some (.int (nI c)))) z) : wm_X2_squareOf idx z Q := by
  have hw8 := hd.2.1
  have hw1 := hd.1
  have hh8 := hd.2.2.2.1
  have hh1 := hd.2.2.1
  unfold wm_X2_squareOf wc_X2_squareOf_4
  by_cases hneg : idx < 0
  · refine lp_for (fun _ => (idx, nI 0, z)) 0 ?_ rfl
    intro m hm B hB
    simp only
    unfold wb_X2_squareOf_4
    rw [hj.2.1]
    refine ⟨fun h1 => ?_, fun _ => ⟨fun _ => ?_, fun h2 => absurd hneg h2⟩⟩
    · rw [i_le (by omega) (by omega)] at h1; omega
    · refine k0 (fun n hn e => ?_)
      rw [e] at hneg
      exact absurd hneg (i_n0 hn)
  · obtain ⟨n, hn, rfl⟩ := i_ex hneg
    refine lp_inv (fun y s => fb_ct (fq w h r S p) (8 * y) ≤ n ∧ s = (nI (n - fb_ct (fq w h r S p) (8 * y)), nI y, z)) h ?_ ⟨Nat.zero_le _, rfl⟩
    rintro y s hy ⟨hle, rfl⟩ B hB
    simp only
    unfold wb_X2_squareOf_4
    rw [hj.2.1]
    refine ⟨fun h1 => ?_, fun h1 => ⟨fun h2 => absurd h2 (i_n0 (by omega)), fun _ => ?_⟩⟩
    · rw [i_le (by omega) (by omega)] at h1
      have : y = h := by omega
      subst this
      refine k0 (fun n' hn' e => ?_)
      rw [i_eq (by omega) (by omega)] at e
      rw [fq_end hh8 (fun c e => by have := fq_w e; omega)]
      omega
    · rw [i_le (by omega) (by omega)] at h1
      unfold wc_X2_squareOf_22
      refine lp_inv (fun x s => fb_ct (fq w h r S p) (8 * y + x) ≤ n ∧ s = (nI (n - fb_ct (fq w h r S p) (8 * y + x)), nI x, z)) w ?_ ⟨hle, rfl⟩
      rintro x s hx ⟨hle2, rfl⟩ B' hB'
      simp only
      unfold wb_X2_squareOf_22
      rw [hj.1]
      refine ⟨fun h2 => ?_, fun h2 => ?_⟩
      · rw [i_le (by omega) (by omega)] at h2
        have : x = w := by omega
        subst this
        unfold wc_X2_squareOf_65
        intro v e
        rw [i_1, i_add] at e
        rw [e]
        have er := fq_row (y := y) hw8 (g := fq x h r S p) (fun c e => (fq_w e).1)
        exact hB (by omega) _ ⟨by rw [er]; exact hle2, by rw [er]⟩
      · rw [i_le (by omega) (by omega)] at h2
        have hB' := hB' (by omega)
        refine sq_canFlip hd hj hc (by omega) (by omega) ⟨_, rfl, fun h3 => ?_, fun h3 => ⟨fun h4 v e => ?_, fun h4 => ?_⟩⟩
        · rw [bi_0] at h3
          unfold wc_X2_squareOf_59
          intro v e
          rw [i_1, i_add] at e
          rw [e]
          refine hB' _ ?_
          rw [← Nat.add_assoc, fb_ct_succ, h3]
          exact ⟨hle2, rfl⟩
        · rw [bi_n] at h3
          rw [i_0, i_eq (by omega) (by omega)] at h4
          rw [i_m1 (by omega)] at e
          unfold wc_X2_squareOf_59
          intro v2 e2
          rw [i_1, i_add] at e2
          rw [e, e2]
          refine hB' _ ?_
          rw [← Nat.add_assoc, fb_ct_succ, h3, if_pos rfl]
          refine ⟨by omega, ?_⟩
          rw [Nat.sub_sub]
        · rw [bi_n] at h3
          rw [i_0, i_eq (by omega) (by omega)] at h4
          unfold wc_X2_squareOf_48
          rw [i_8, pk_mul, i_add]
          refine k1 (8 * y + x) (by omega) h3 ?_
          rw [i_eq (by omega) (by have := fb_ct_le (fq w h r S p) (8 * y + x); omega)]
          omega
end COV
