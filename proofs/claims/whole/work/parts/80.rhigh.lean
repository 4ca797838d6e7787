/-! ===== heights of the reference ===== -/
theorem i_and1 {a : Int32} : (a &&& (1 : Int32)) = 0 ↔ a.toInt % 2 = 0 := by
  have h1 : (a &&& (1 : Int32)) = nI (a.toBitVec.toNat % 2 ^ 1) := pk_and a 1 (by decide +kernel)
  have h3 : a.toInt = if 2 * a.toBitVec.toNat < 2 ^ 32 then (a.toBitVec.toNat : Int) else (a.toBitVec.toNat : Int) - (2 ^ 32 : Nat) := BitVec.toInt_eq_toNat_cond a.toBitVec
  rw [h1, i_0, i_eq (by omega) (by omega), h3]
  split <;> omega
theorem vl_n {a b : Bool} : vl (!a) b = -vl a b := by cases a <;> cases b <;> decide
section RHIGH
variable {w h : Nat} {S : Nat → Bool} {p p' : Nat → Nat} {H H' : Nat → Int} {z : tq_S} {Q : tq_O → tq_S → Prop}
theorem sq_cellG {X Y : Int32} {x y : Nat} (hd : jd w h false S) (hj : jr w h false S z) (hX : X.toInt = (x : Int) - 1) (hY : Y.toInt = (y : Int) - 1) (k : Q (.inl (some (.int (bi (bx S x y))))) z) : wm_X12_isCell X Y z Q := by
  have e := ho_bx hd hX hY
  obtain ⟨hw1, hw8, hh1, hh8, -, -⟩ := hd
  refine sq_isCell hw1 hw8 hh1 hh8 hj ?_
  rw [e]; exact k
/-- a side that has one cell on the left hand and another one on the right -/
theorem sq_along {A1 A2 A3 A4 : Int32} {lx ly rx ry : Nat} (hd : jd w h false S) (hj : jr w h false S z) (hpc : pc w false S p) (ht : rto w false S (fun _ => false) p (tq_ai z 56)) (h1 : A1.toInt = (lx : Int) - 1) (h2 : A2.toInt = (ly : Int) - 1) (h3 : A3.toInt = (rx : Int) - 1) (h4 : A4.toInt = (ry : Int) - 1) (l1 : lx ≤ 9) (l2 : ly ≤ 9) (l3 : rx ≤ 9) (l4 : ry ≤ 9) (k0 : (bx S lx ly || bx S rx ry) = false → Q (.inl (some (.int (1000000 : Int32)))) z) (k1 : ∀ v : Int32, (bx S lx ly || bx S rx ry) = true → v.toInt = vl (decide ((lx + ly) % 2 = 0)) (bx S lx ly && bx S rx ry && decide (p (8 * (ly - 1) + (lx - 1)) = 8 * (ry - 1) + (rx - 1))) → Q (.inl (some (.int v))) z) : wm_X12_along A1 A2 A3 A4 z Q := by
  have last : ∀ cr, cr = (bx S lx ly && bx S rx ry && decide (p (8 * (ly - 1) + (lx - 1)) = 8 * (ry - 1) + (rx - 1))) → (bx S lx ly || bx S rx ry) = true → wc_X12_along_131 Q A1 A2 (bi cr) z := by
    intro cr hcr hs
    rw [← hcr] at k1
    unfold wc_X12_along_131 wm_X12_isDark
    have t : (A1 + A2).toInt = (lx : Int) - 1 + (ly - 1) := by rw [nu_add (by rw [h1, h2]; omega) (by rw [h1, h2]; omega), h1, h2]
    rw [i_and1, t]
    refine ⟨fun q => ⟨_, rfl, fun _ => ?_, fun q2 => absurd rfl q2⟩, fun q => ⟨_, rfl, fun q2 => absurd q2 (by decide +kernel), fun _ => ?_⟩⟩
    · rw [decide_eq_false (by omega)] at k1
      rw [bi_0]
      refine ⟨fun q2 => k1 _ hs (by rw [q2]; decide +kernel), fun q2 => k1 _ hs ?_⟩
      have q2 : cr = true := by simpa using q2
      rw [q2]; decide +kernel
    · rw [decide_eq_true (by omega)] at k1
      rw [bi_0]
      refine ⟨fun q2 => k1 _ hs (by rw [q2]; decide +kernel), fun q2 => k1 _ hs ?_⟩
      have q2 : cr = true := by simpa using q2
      rw [q2]; decide +kernel
  unfold wm_X12_along
  refine sq_cellG hd hj h1 h2 ⟨_, rfl, ?_⟩
  refine sq_cellG hd hj h3 h4 ⟨_, rfl, ?_⟩
  have main : (bx S lx ly || bx S rx ry) = true → wc_X12_along_31 Q A1 A2 A3 A4 (bi (bx S lx ly)) (bi (bx S rx ry)) z := by
    intro hs
    unfold wc_X12_along_31
    rw [bi_0, bi_0]
    refine ⟨fun q => last false (by rw [q]; rfl) hs, fun q => ⟨fun q2 => last false (by rw [q2]; simp) hs, fun q2 => ?_⟩⟩
    have q : bx S lx ly = true := by simpa using q
    have q2 : bx S rx ry = true := by simpa using q2
    have bl := bx_rect hd.2.2.2.2.2 q
    have br := bx_rect hd.2.2.2.2.2 q2
    have hw8 := hd.2.1
    have hh8 := hd.2.2.2.1
    have hw1 := hd.1
    obtain ⟨L, hL⟩ : ∃ L, L = 8 * (ly - 1) + (lx - 1) := ⟨_, rfl⟩
    have sL := bl.2.2.2.2.2.2
    rw [← hL] at sL last
    rw [q, q2, Bool.true_and, Bool.true_and] at last
    have eI : (8 : Int32) * A2 + A1 = nI L := by
      have e1 : A1 = nI (lx - 1) := by rw [nu_eq, h1, i_ti (by omega)]; omega
      have e2 : A2 = nI (ly - 1) := by rw [nu_eq, h2, i_ti (by omega)]; omega
      rw [e1, e2, i_8, pk_mul, i_add, hL]
    have L64 : L < 64 := by omega
    rw [eI, i_cl (by omega), rto_at ht L64 sL]
    refine ⟨i_in (by omega) (by omega), fun v1 e1 => ?_⟩
    rw [e1]
    obtain ⟨p1, p2, p3⟩ := hpc L sL
    have rp := hd.2.2.2.2.2 _ p1
    have tl := tc_lt (w := w) (r := false) (p := p) (j := L)
    -- the last comparison
    have cmp : ∀ (X : Int32) (s0 : Int32) (xp yp : Nat), X.toInt = (xp : Int) - 1 → (A2 + s0).toInt = (yp : Int) - 1 → xp ≤ 9 → yp ≤ 9 → 1 ≤ xp → 1 ≤ yp → xp ≤ 8 → p L = 8 * (yp - 1) + (xp - 1) → wc_X12_along_108 Q A1 A2 A3 A4 X s0 A2 z := by
      intro X s0 xp yp hX hY g1 g2 g3 g4 g5 hpL
      unfold wc_X12_along_108
      intro v e
      rw [e]
      unfold wc_X12_along_128 wc_X12_along_129
      refine ⟨fun u => last false ?_ rfl, fun u => ⟨fun u2 => last false ?_ rfl, fun u2 => last true ?_ rfl⟩⟩
      · refine (decide_eq_false (fun e2 => u ?_)).symm
        rw [hpL] at e2
        rw [nu_eq, hX, h3]; omega
      · refine (decide_eq_false (fun e2 => u2 ?_)).symm
        rw [hpL] at e2
        rw [nu_eq, hY, h4]; omega
      · refine (decide_eq_true ?_).symm
        have a1 := congrArg Int32.toInt u
        have a2 := congrArg Int32.toInt u2
        rw [hX, h3] at a1
        rw [hY, h4] at a2
        rw [hpL]; omega
    have tA1 : ∀ c : Int32, (-1 ≤ c.toInt ∧ c.toInt ≤ 1) → (A1 + c).toInt = (lx : Int) - 1 + c.toInt := fun c hc => by rw [nu_add (by rw [h1]; omega) (by rw [h1]; omega), h1]
    have tA2 : ∀ c : Int32, (-1 ≤ c.toInt ∧ c.toInt ≤ 1) → (A2 + c).toInt = (ly : Int) - 1 + c.toInt := fun c hc => by rw [nu_add (by rw [h2]; omega) (by rw [h2]; omega), h2]
    have m1 : (-1 : Int32).toInt = -1 := by decide +kernel
    have e101 : (101 : Int32) = nI 101 := rfl
    have e119 : (119 : Int32) = nI 119 := rfl
    have e115 : (115 : Int32) = nI 115 := rfl
    have e110 : (110 : Int32) = nI 110 := rfl
    have lm : L % 8 = lx - 1 := by omega
    unfold wc_X12_along_81
    unfold nb at p3
    simp only [Bool.or_eq_true, Bool.and_eq_true, decide_eq_true_eq, Bool.false_and, Bool.false_eq_true, or_false, false_and] at p3
    by_cases c1 : Rp w false p L = true
    · -- to the right
      have c2 := c1
      rw [Rp_f, Bool.and_eq_true, decide_eq_true_eq, decide_eq_true_eq] at c2
      have tcv : tc w false p L = 101 := tc_v1 c1
      rw [tcv, e101, e119, i_eq (by omega) (by omega)]
      refine ⟨fun u => absurd rfl u, fun _ v2 e2 => ?_⟩
      rw [e115, e110, i_eq (by omega) (by omega), i_eq (by omega) (by omega)]
      refine ⟨fun _ => ⟨fun _ => cmp v2 0 (lx + 1) ly (by rw [e2, tA1 1 (by rw [i_t1]; omega), i_t1]; omega) (by rw [tA2 0 (by rw [i_z]; omega), i_z]; omega) (by omega) (by omega) (by omega) (by omega) (by omega) (by omega), fun u => by omega⟩, fun u => by omega⟩
    · by_cases c2 : p L = L + 8
      · have tcv : tc w false p L = 115 := tc_v2 hw1 c2
        rw [tcv, e101, e119, i_eq (by omega) (by omega), i_eq (by omega) (by omega)]
        refine ⟨fun _ => ⟨fun _ v2 e2 => ?_, fun u => by omega⟩, fun u => by omega⟩
        rw [e115]
        refine ⟨fun u => absurd rfl u, fun _ => cmp v2 1 lx (ly + 1) (by rw [e2, tA1 0 (by rw [i_z]; omega), i_z]; omega) (by rw [tA2 1 (by rw [i_t1]; omega), i_t1]; omega) (by omega) (by omega) (by omega) (by omega) (by omega) (by omega)⟩
      · by_cases c3 : p L + 8 = L
        · have tcv : tc w false p L = 110 := tc_v3 hw8 c3
          rw [tcv, e101, e119, i_eq (by omega) (by omega), i_eq (by omega) (by omega)]
          refine ⟨fun _ => ⟨fun _ v2 e2 => ?_, fun u => by omega⟩, fun u => by omega⟩
          rw [e115, e110, i_eq (by omega) (by omega)]
          refine ⟨fun _ => ⟨fun u => absurd rfl u, fun _ => cmp v2 (-1) lx (ly - 1) (by rw [e2, tA1 0 (by rw [i_z]; omega), i_z]; omega) (by rw [tA2 (-1) (by rw [m1]; omega), m1]; omega) (by omega) (by omega) (by omega) (by omega) (by omega) (by omega)⟩, fun u => by omega⟩
        · have c4 : L = p L + 1 ∧ p L % 8 + 1 < w := by
            rcases p3 with ((u | u) | u) | u
            · omega
            · omega
            · exfalso
              refine c1 ?_
              rw [Rp_f, Bool.and_eq_true, decide_eq_true_eq, decide_eq_true_eq]
              omega
            · exact u
          have c1f : Rp w false p L = false := by simpa using c1
          have c2f : Dp p L = false := by unfold Dp; exact decide_eq_false c2
          have tcv : tc w false p L = 119 := tc_v4 c1f c2f c3
          rw [tcv, e101, e119, i_eq (by omega) (by omega)]
          refine ⟨fun _ => ⟨fun u => absurd rfl u, fun _ v2 e2 => ?_⟩, fun u => by omega⟩
          rw [e115, e110, i_eq (by omega) (by omega), i_eq (by omega) (by omega)]
          refine ⟨fun _ => ⟨fun _ => cmp v2 0 (lx - 1) ly (by rw [e2, tA1 (-1) (by rw [m1]; omega), m1]; omega) (by rw [tA2 0 (by rw [i_z]; omega), i_z]; omega) (by omega) (by omega) (by omega) (by omega) (by omega) (by omega), fun u => by omega⟩, fun u => by omega⟩
  rw [bi_n, bi_0]
  refine ⟨fun q => main (by rw [q]; rfl), fun q => ?_⟩
  rw [bi_n, bi_0]
  refine ⟨fun q2 => main (by rw [q2]; simp), fun q2 => k0 (by rw [q, q2]; rfl)⟩
/-! what the four sides have -/
theorem al_0 (hd : jd w h false S) (hpc : pc w false S p) {x y : Nat} (hx : x ≤ 8) (hy : y ≤ 8) : vl (decide ((x + 1 + y) % 2 = 0)) (bx S (x + 1) y && bx S (x + 1) (y + 1) && decide (p (8 * (y - 1) + (x + 1 - 1)) = 8 * (y + 1 - 1) + (x + 1 - 1))) = ho0 S p (x + 1) y := by
  unfold ho0
  congr 1
  cases q : bx S (x + 1) y
  · rfl
  · have b := bx_rect hd.2.2.2.2.2 q
    rw [Bool.true_and, Bool.true_and]
    have e : 8 * (y + 1 - 1) + (x + 1 - 1) = 8 * (y - 1) + (x + 1 - 1) + 8 := by omega
    rw [e]
    show _ = decide (p (8 * (y - 1) + (x + 1 - 1)) = 8 * (y - 1) + (x + 1 - 1) + 8)
    by_cases q2 : p (8 * (y - 1) + (x + 1 - 1)) = 8 * (y - 1) + (x + 1 - 1) + 8
    · rw [decide_eq_true q2, Bool.and_true]
      have := (cr_h (x := x + 1) (y := y) hd hpc (by rw [q]; unfold Dp; rw [decide_eq_true q2]; rfl)).2
      rw [this]
    · rw [decide_eq_false q2, Bool.and_false]
theorem al_2 (hd : jd w h false S) (hpc : pc w false S p) {x y : Nat} (hx : x ≤ 8) (hy : y ≤ 8) : vl (decide ((x + 1 + (y + 1)) % 2 = 0)) (bx S (x + 1) (y + 1) && bx S x (y + 1) && decide (p (8 * (y + 1 - 1) + (x + 1 - 1)) = 8 * (y + 1 - 1) + (x - 1))) = ve0 w S p x (y + 1) := by
  unfold ve0
  have e1 : decide ((x + 1 + (y + 1)) % 2 = 0) = decide ((x + (y + 1)) % 2 = 1) := decide_eq_decide.mpr (by omega)
  rw [e1]
  congr 1
  cases q : bx S x (y + 1)
  · rw [Bool.and_false, Bool.false_and, Bool.false_and]
  · have b := bx_rect hd.2.2.2.2.2 q
    rw [Bool.and_true, Bool.true_and, Rp_f]
    have e2 : (8 * (y + 1 - 1) + (x - 1)) % 8 = x - 1 := by omega
    have e3 : 8 * (y + 1 - 1) + (x + 1 - 1) = 8 * (y + 1 - 1) + (x - 1) + 1 := by omega
    rw [e3]
    obtain ⟨a, ha⟩ : ∃ a, a = 8 * (y + 1 - 1) + (x - 1) := ⟨_, rfl⟩
    have sa := b.2.2.2.2.2.2
    rw [← ha] at e2 sa ⊢
    cases q2 : bx S (x + 1) (y + 1)
    · rw [Bool.false_and]
      by_cases q3 : p a = a + 1
      · by_cases q4 : a % 8 + 1 < w
        · exfalso
          have := (cr_v (x := x) (y := y + 1) hd hpc (by rw [q, ← ha, Rp_f, decide_eq_true q3, decide_eq_true q4]; rfl)).2
          rw [q2] at this; cases this
        · rw [decide_eq_false q4]; rfl
      · rw [decide_eq_false q3, Bool.and_false]
    · have b2 := bx_rect hd.2.2.2.2.2 q2
      have sa1 : S (a + 1) = true := by
        have e4 : 8 * (y + 1 - 1) + (x + 1 - 1) = a + 1 := by omega
        rw [← e4]; exact b2.2.2.2.2.2.2
      rw [Bool.true_and, decide_eq_true (by omega : a % 8 + 1 < w), Bool.true_and]
      refine decide_eq_decide.mpr ⟨fun u => ?_, fun u => ?_⟩
      · have := (hpc _ sa1).2.1; rw [u] at this; exact this
      · have := (hpc _ sa).2.1; rw [u] at this; exact this
theorem al_1 (hd : jd w h false S) (hpc : pc w false S p) {x y : Nat} (hx : x ≤ 8) (hy : y ≤ 8) : vl (decide ((x + (y + 1)) % 2 = 0)) (bx S x (y + 1) && bx S x y && decide (p (8 * (y + 1 - 1) + (x - 1)) = 8 * (y - 1) + (x - 1))) = -ho0 S p x y := by
  unfold ho0
  rw [← vl_n]
  have e1 : decide ((x + (y + 1)) % 2 = 0) = !decide ((x + y) % 2 = 0) := by
    by_cases q : (x + y) % 2 = 0
    · rw [decide_eq_true q, decide_eq_false (by omega)]; rfl
    · rw [decide_eq_false q, decide_eq_true (by omega)]; rfl
  rw [e1]
  congr 1
  cases q : bx S x y
  · rw [Bool.and_false, Bool.false_and, Bool.false_and]
  · have b := bx_rect hd.2.2.2.2.2 q
    rw [Bool.and_true, Bool.true_and]
    have e3 : 8 * (y + 1 - 1) + (x - 1) = 8 * (y - 1) + (x - 1) + 8 := by omega
    rw [e3]
    obtain ⟨a, ha⟩ : ∃ a, a = 8 * (y - 1) + (x - 1) := ⟨_, rfl⟩
    have sa := b.2.2.2.2.2.2
    rw [← ha] at sa ⊢
    unfold Dp
    cases q2 : bx S x (y + 1)
    · rw [Bool.false_and]
      by_cases q3 : p a = a + 8
      · exfalso
        have := (cr_h (x := x) (y := y) hd hpc (by rw [q, ← ha]; unfold Dp; rw [decide_eq_true q3]; rfl)).2
        rw [q2] at this; cases this
      · rw [decide_eq_false q3]
    · have b2 := bx_rect hd.2.2.2.2.2 q2
      have sa1 : S (a + 8) = true := by
        have e4 : 8 * (y + 1 - 1) + (x - 1) = a + 8 := by omega
        rw [← e4]; exact b2.2.2.2.2.2.2
      rw [Bool.true_and]
      refine decide_eq_decide.mpr ⟨fun u => ?_, fun u => ?_⟩
      · have := (hpc _ sa1).2.1; rw [u] at this; exact this
      · have := (hpc _ sa).2.1; rw [u] at this; exact this
theorem al_3 (hd : jd w h false S) (hpc : pc w false S p) {x y : Nat} (hx : x ≤ 8) (hy : y ≤ 8) : vl (decide ((x + y) % 2 = 0)) (bx S x y && bx S (x + 1) y && decide (p (8 * (y - 1) + (x - 1)) = 8 * (y - 1) + (x + 1 - 1))) = -ve0 w S p x y := by
  unfold ve0
  rw [← vl_n]
  have e1 : decide ((x + y) % 2 = 0) = !decide ((x + y) % 2 = 1) := by
    by_cases q : (x + y) % 2 = 0
    · rw [decide_eq_true q, decide_eq_false (by omega)]; rfl
    · rw [decide_eq_false q, decide_eq_true (by omega)]; rfl
  rw [e1]
  congr 1
  cases q : bx S x y
  · rfl
  · have b := bx_rect hd.2.2.2.2.2 q
    rw [Bool.true_and, Bool.true_and, Rp_f]
    have e2 : (8 * (y - 1) + (x - 1)) % 8 = x - 1 := by omega
    have e3 : 8 * (y - 1) + (x + 1 - 1) = 8 * (y - 1) + (x - 1) + 1 := by omega
    rw [e3]
    obtain ⟨a, ha⟩ : ∃ a, a = 8 * (y - 1) + (x - 1) := ⟨_, rfl⟩
    rw [← ha] at e2 ⊢
    by_cases q3 : p a = a + 1
    · rw [decide_eq_true q3, Bool.and_true, Bool.and_true]
      cases q2 : bx S (x + 1) y
      · by_cases q4 : a % 8 + 1 < w
        · exfalso
          have := (cr_v (x := x) (y := y) hd hpc (by rw [q, ← ha, Rp_f, decide_eq_true q3, decide_eq_true q4]; rfl)).2
          rw [q2] at this; cases this
        · rw [decide_eq_false q4]
      · have b2 := bx_rect hd.2.2.2.2.2 q2
        rw [decide_eq_true (by omega)]
    · rw [decide_eq_false q3, Bool.and_false, Bool.and_false]
end RHIGH
