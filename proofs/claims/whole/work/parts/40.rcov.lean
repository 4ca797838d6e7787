/-! ===== the reference's cover ===== -/
theorem i_nc {c : Nat} (h : c < 65536) : vp_nar .char (nI c) = nI c := by
  unfold vp_nar
  rw [(pk_charN h).1]
section RCOV
variable {w h : Nat} {r : Bool} {S : Nat → Bool} {z : tq_S} {Q : tq_O → tq_S → Prop} {p : Nat → Nat}
theorem tc_101 {j : Nat} : tc w r p j = 101 ↔ Rp w r p j = true := by
  unfold tc
  cases Rp w r p j
  · simp only [Bool.false_eq_true, if_false]
    split
    · simp
    · split <;> simp
  · simp
theorem tc_115 {j : Nat} (hw1 : 1 ≤ w) : tc w r p j = 115 ↔ Dp p j = true := by
  unfold tc
  cases hr : Rp w r p j
  · simp only [Bool.false_eq_true, if_false]
    cases Dp p j
    · simp only [Bool.false_eq_true, if_false]
      split <;> simp
    · simp
  · simp only [if_true]
    cases hd : Dp p j
    · simp
    · have := Rp_d (r := r) hw1 (of_decide_eq_true hd)
      rw [this] at hr; cases hr
theorem tc_lt {j : Nat} : tc w r p j < 200 := by unfold tc; split <;> (try split) <;> (try split) <;> omega
theorem rto_at {A : Nat → Int32} (ht : rto w r S (fun _ => false) p A) {j : Nat} (hj : j < 64) (hs : S j = true) : A j = nI (tc w r p j) := ht j hj hs rfl
theorem sq_isFlip {a b : Nat} (hd : jd w h r S) (hj : jr w h r S z) (hp : pc w r S p) (ht : rto w r S (fun _ => false) p (tq_ai z 56)) (ha : a < w) (hb : b < 8) (k : Q (.inl (some (.int (bi (fq w h r S p (8 * b + a)))))) z) : wm_X12_isFlip (nI a) (nI b) z Q := by
  have hw8 := hd.2.1
  have hw1 := hd.1
  have hh8 := hd.2.2.2.1
  have hh1 := hd.2.2.1
  have d1 : (8 * b + a) % 8 = a := by omega
  have d2 : (8 * b + a) / 8 = b := by omega
  have no : fq w h r S p (8 * b + a) = false → Q (.inl (some (.int (0 : Int32)))) z := fun e => by rw [e] at k; exact k
  have yes : fq w h r S p (8 * b + a) = true → Q (.inl (some (.int (1 : Int32)))) z := fun e => by rw [e] at k; exact k
  have main : b + 1 < h → (a + 1 < w ∨ r = true) → wc_X12_isFlip_29 Q (nI a) (nI b) z := by
    intro hbh hr
    obtain ⟨b2, hb2⟩ : ∃ b2, b2 = if a + 1 < w then a + 1 else 0 := ⟨_, rfl⟩
    have b2w : b2 < w := by rw [hb2]; split <;> omega
    have ebb : bb w (8 * b + a) = 8 * b + b2 := by rw [bb_c ha hw8, hb2]
    have ef : fq w h r S p (8 * b + a) = (((S (8 * b + a) && Rp w r p (8 * b + a)) && (S (8 * b + a + 8) && Rp w r p (8 * b + a + 8))) || ((S (8 * b + a) && Dp p (8 * b + a)) && (S (8 * b + b2) && Dp p (8 * b + b2)))) := by
      unfold fq
      rw [d1, d2, ebb, decide_eq_true ha, decide_eq_true hbh]
      have : (decide (a + 1 < w) || r) = true := by
        rcases hr with q | q
        · rw [decide_eq_true q]; rfl
        · rw [q]; simp
      rw [this]; rfl
    unfold wc_X12_isFlip_29
    rw [hj.1.1, i_1, i_add, pk_rem (by omega) (by omega) (by omega)]
    refine ⟨?_, fun v e => ?_⟩
    · rw [i_0, i_eq (by omega) (by omega)]; omega
    have em : (a + 1) % w = b2 := by
      rw [hb2]
      by_cases q : a + 1 < w
      · rw [if_pos q, Nat.mod_eq_of_lt q]
      · have : a + 1 = w := by omega
        rw [if_neg q, this, Nat.mod_self]
    rw [em] at e
    subst e
    -- the last step
    have t164 : ∀ on ac dn : Bool, fq w h r S p (8 * b + a) = (on && (ac || dn)) → wc_X12_isFlip_164 Q (bi on) (bi ac) (bi dn) z := by
      intro on ac dn e
      unfold wc_X12_isFlip_164
      rw [bi_0, bi_0, bi_0]
      refine ⟨fun q => no (by rw [e, q]; rfl), fun q => ⟨fun q2 => yes ?_, fun q2 => ⟨fun q3 => no (by rw [e, q2, q3]; simp), fun q3 => yes ?_⟩⟩⟩
      · rw [Bool.not_eq_false] at q q2; rw [e, q, q2]; rfl
      · rw [Bool.not_eq_false] at q q3; rw [e, q, q3]; simp
    have rd : ∀ j (c : Int32), (∃ dec : Bool, (tq_ai z 56 j = c ↔ dec = true)) := fun j c => by
      by_cases q : tq_ai z 56 j = c
      · exact ⟨true, by simp [q]⟩
      · exact ⟨false, by simp [q]⟩
    -- what is read, where the four cells are on
    have on4 : ∀ on : Bool, (on = true ↔ (S (8 * b + a) = true ∧ S (8 * b + b2) = true ∧ S (8 * (b + 1) + a) = true ∧ S (8 * (b + 1) + b2) = true)) → wc_X12_isFlip_83 Q (nI a) (nI b) (nI b2) (bi on) z := by
      intro on hon
      have e8 : 8 * b + 8 + a = 8 * b + a + 8 := by omega
      have e8' : 8 * (b + 1) + a = 8 * b + a + 8 := by omega
      have e8'' : 8 * (b + 1) + b2 = 8 * b + b2 + 8 := by omega
      rw [e8', e8''] at hon
      have fon : fq w h r S p (8 * b + a) = true → on = true := by
        intro q
        obtain ⟨-, -, -, s1, s2, s3, s4, -⟩ := fq_t hd hp q
        rw [ebb] at s2 s4
        exact hon.mpr ⟨s1, s2, s3, s4⟩
      have codes : on = true → (tq_ai z 56 (8 * b + a) = nI (tc w r p (8 * b + a)) ∧ tq_ai z 56 (8 * b + a + 8) = nI (tc w r p (8 * b + a + 8)) ∧ tq_ai z 56 (8 * b + b2) = nI (tc w r p (8 * b + b2))) := by
        intro q
        obtain ⟨s1, s2, s3, s4⟩ := hon.mp q
        exact ⟨rto_at ht (by omega) s1, rto_at ht (by omega) s3, rto_at ht (by omega) s2⟩
      have c101 : ∀ j, nI (tc w r p j) = (101 : Int32) ↔ Rp w r p j = true := fun j => by
        have := tc_lt (w := w) (r := r) (p := p) (j := j)
        rw [show (101 : Int32) = nI 101 from rfl, i_eq (by omega) (by omega)]; exact tc_101
      have c115 : ∀ j, nI (tc w r p j) = (115 : Int32) ↔ Dp p j = true := fun j => by
        have := tc_lt (w := w) (r := r) (p := p) (j := j)
        rw [show (115 : Int32) = nI 115 from rfl, i_eq (by omega) (by omega)]; exact tc_115 hw1
      obtain ⟨x1, hx1⟩ := rd (8 * b + a) 101
      obtain ⟨x2, hx2⟩ := rd (8 * b + a + 8) 101
      obtain ⟨x3, hx3⟩ := rd (8 * b + a) 115
      obtain ⟨x4, hx4⟩ := rd (8 * b + b2) 115
      have val : fq w h r S p (8 * b + a) = (on && ((x1 && x2) || (x3 && x4))) := by
        cases hq : on
        · cases hf : fq w h r S p (8 * b + a)
          · rfl
          · have := fon hf; rw [hq] at this; cases this
        · obtain ⟨k1, k2, k3⟩ := codes hq
          obtain ⟨s1, s2, s3, s4⟩ := hon.mp hq
          rw [k1, c101] at hx1
          rw [k2, c101] at hx2
          rw [k1, c115] at hx3
          rw [k3, c115] at hx4
          have y1 : x1 = Rp w r p (8 * b + a) := Bool.eq_iff_iff.mpr hx1.symm
          have y2 : x2 = Rp w r p (8 * b + a + 8) := Bool.eq_iff_iff.mpr hx2.symm
          have y3 : x3 = Dp p (8 * b + a) := Bool.eq_iff_iff.mpr hx3.symm
          have y4 : x4 = Dp p (8 * b + b2) := Bool.eq_iff_iff.mpr hx4.symm
          rw [ef, s1, s2, s3, y1, y2, y3, y4]; simp
      have t125 : ∀ ac, ac = (x1 && x2) → wc_X12_isFlip_125 Q (nI a) (nI b) (nI b2) (bi on) (bi ac) z := by
        intro ac hac
        unfold wc_X12_isFlip_125
        rw [i_8, pk_mul, i_add, i_add, i_cl (by omega), i_cl (by omega), hx3, hx4]
        refine ⟨i_in (by omega) (by omega), fun q => ?_, fun q => ⟨i_in (by omega) (by omega), fun q2 => ?_, fun q2 => ?_⟩⟩
        · unfold wc_X12_isFlip_163
          rw [Bool.not_eq_true] at q
          exact t164 on ac false (by rw [val, hac, q]; rfl)
        · unfold wc_X12_isFlip_163
          rw [Bool.not_eq_true] at q2
          exact t164 on ac false (by rw [val, hac, q2]; simp)
        · exact t164 on ac true (by rw [val, hac, q, q2]; rfl)
      unfold wc_X12_isFlip_83
      rw [i_8, pk_mul, i_add (8 * b) a, i_add (8 * b) 8, i_add (8 * b + 8) a, i_cl (by omega), i_cl (by omega), e8, hx1, hx2]
      refine ⟨i_in (by omega) (by omega), fun q => ?_, fun q => ⟨i_in (by omega) (by omega), fun q2 => ?_, fun q2 => ?_⟩⟩
      · unfold wc_X12_isFlip_124
        rw [Bool.not_eq_true] at q
        exact t125 false (by rw [q]; rfl)
      · unfold wc_X12_isFlip_124
        rw [Bool.not_eq_true] at q2
        exact t125 false (by rw [q2]; simp)
      · exact t125 true (by rw [q, q2]; rfl)
    have off : ¬ (S (8 * b + a) = true ∧ S (8 * b + b2) = true ∧ S (8 * (b + 1) + a) = true ∧ S (8 * (b + 1) + b2) = true) → wc_X12_isFlip_82 Q (nI a) (nI b) (nI b2) z := by
      intro q
      unfold wc_X12_isFlip_82
      exact on4 false ⟨fun u => (by cases u), fun u => absurd u q⟩
    have cell : ∀ x y (f : Int32 → tq_S → Prop), x < w → y < h → (S (8 * y + x) = false → f 0 z) → (S (8 * y + x) = true → f 1 z) → wm_X12_isCell (nI x) (nI y) z (tq_wi f) := by
      intro x y f hx hy f0 f1
      refine sq_isCell hw1 hw8 hh1 hh8 hj ⟨_, rfl, ?_⟩
      rw [ho_n (by omega) (by omega), decide_eq_true hx, decide_eq_true hy, Bool.true_and, Bool.true_and]
      cases hs : S (8 * y + x)
      · exact f0 hs
      · exact f1 hs
    refine cell a b _ ha (by omega) (fun s => ⟨fun _ => off (fun u => by rw [s] at u; exact Bool.false_ne_true u.1), fun q => absurd rfl q⟩) (fun s1 => ⟨fun q => absurd q (by decide +kernel), fun _ => ?_⟩)
    refine cell b2 b _ b2w (by omega) (fun s => ⟨fun _ => off (fun u => by rw [s] at u; exact Bool.false_ne_true u.2.1), fun q => absurd rfl q⟩) (fun s2 => ⟨fun q => absurd q (by decide +kernel), fun _ => ?_⟩)
    rw [i_add]
    refine cell a (b + 1) _ ha hbh (fun s => ⟨fun _ => off (fun u => by rw [s] at u; exact Bool.false_ne_true u.2.2.1), fun q => absurd rfl q⟩) (fun s3 => ⟨fun q => absurd q (by decide +kernel), fun _ => ?_⟩)
    refine cell b2 (b + 1) _ b2w hbh (fun s => ⟨fun _ => off (fun u => by rw [s] at u; exact Bool.false_ne_true u.2.2.2), fun q => absurd rfl q⟩) (fun s4 => ⟨fun q => absurd q (by decide +kernel), fun _ => ?_⟩)
    exact on4 true ⟨fun _ => ⟨s1, s2, s3, s4⟩, fun _ => rfl⟩
  unfold wm_X12_isFlip
  rw [hj.1.2.1, hj.1.1, hj.1.2.2, cr_r0, i_1, i_add, i_add, i_le (by omega) (by omega), i_lt (by omega) (by omega)]
  refine ⟨fun h1 => no ?_, fun h1 => ⟨fun h2 => main (by omega) (Or.inr (by simpa using h2)), fun h2 => ⟨fun h3 => main (by omega) (Or.inl h3), fun h3 => no ?_⟩⟩⟩
  · unfold fq; rw [d2, decide_eq_false (by omega : ¬ b + 1 < h)]; simp
  · unfold fq; rw [d1, decide_eq_false h3, h2]; simp
theorem sq_rflips (hd : jd w h r S) (hj : jr w h r S z) (hp : pc w r S p) (ht : rto w r S (fun _ => false) p (tq_ai z 56)) (k : Q (.inl (some (.int (nI (fb_ct (fq w h r S p) 64))))) z) : wm_X12_flipsOf z Q := by
  have hw8 := hd.2.1
  unfold wm_X12_flipsOf wc_X12_flipsOf_4
  refine lp_for (fun m => (nI (fb_ct (fq w h r S p) m), nI m, z)) 64 ?_ rfl
  intro m hm B hB
  simp only
  have b1 := fb_ct_le (fq w h r S p) m
  unfold wb_X12_flipsOf_4
  rw [i_64]
  refine ⟨fun h1 => ?_, fun h1 => ?_⟩
  · rw [i_le (by omega) (by omega)] at h1
    have : m = 64 := by omega
    subst this; exact k
  · rw [i_le (by omega) (by omega)] at h1
    have hB := hB (by omega)
    rw [fb_ct_succ] at hB
    have e0 : fq w h r S p m = false → wc_X12_flipsOf_41 (fun b1 b2 z => B (b1, b2, z)) Q (nI m) (nI (fb_ct (fq w h r S p) m)) z := by
      intro q
      rw [q] at hB
      unfold wc_X12_flipsOf_41 wc_X12_flipsOf_42
      intro v1 e1 v2 e2
      rw [i_0, i_add] at e1
      rw [i_1, i_add] at e2
      rw [e1, e2]; exact hB
    have e1 : fq w h r S p m = true → wc_X12_flipsOf_42 (fun b1 b2 z => B (b1, b2, z)) Q (nI m) (1 : Int32) (nI (fb_ct (fq w h r S p) m)) z := by
      intro q
      rw [q] at hB
      unfold wc_X12_flipsOf_42
      intro v1 e1 v2 e2
      rw [i_1, i_add] at e1 e2
      rw [e1, e2]; exact hB
    rw [hj.1.1, i_8, pk_rem (by omega) (by omega) (by omega), pk_div (by omega) (by omega) (by omega), i_le (by omega) (by omega)]
    refine ⟨fun h2 => e0 ?_, fun h2 => ?_⟩
    · cases hc : fq w h r S p m
      · rfl
      · have := fq_w hc; omega
    · refine sq_isFlip hd hj hp ht (by omega) (by omega) ⟨_, rfl, ?_⟩
      have e8 : 8 * (m / 8) + m % 8 = m := by omega
      rw [e8]
      exact ⟨fun h3 => e0 (bi_0.mp h3), fun h3 => e1 (bi_n.mp h3)⟩
theorem sq_layA {c o : Nat} (hc : c < 64) (ho : o < 64) (k : ∀ z', fr [(2, 56)] z z' → (∀ j, tq_ai z' 56 j = if j = o then nI 119 else if j = c then nI 101 else tq_ai z 56 j) → Q (.inl none) z') : wm_X12_lay (nI c) (nI o) (0 : Int32) z Q := by
  unfold wm_X12_lay
  refine ⟨fun q => absurd rfl q, fun _ => ?_⟩
  unfold wc_X12_lay_26
  refine ⟨i_in (by omega) (by omega), fun z1 e1 => ⟨fun q => absurd rfl q, fun _ => ⟨i_in (by omega) (by omega), fun z2 e2 => ?_⟩⟩⟩
  rw [i_cl (by omega), show vp_nar .char (101 : Int32) = nI 101 by decide +kernel] at e1
  rw [i_cl (by omega), show vp_nar .char (119 : Int32) = nI 119 by decide +kernel] at e2
  refine k z2 (by rw [e2]; refine fr_sai (by decide) ?_; rw [e1]; exact fr_sai (by decide) fr_r) (fun j => ?_)
  rw [e2, rw_aie, rw_upd, e1, rw_aie, rw_upd]
theorem sq_layD {c o : Nat} (hc : c < 64) (ho : o < 64) (k : ∀ z', fr [(2, 56)] z z' → (∀ j, tq_ai z' 56 j = if j = o then nI 110 else if j = c then nI 115 else tq_ai z 56 j) → Q (.inl none) z') : wm_X12_lay (nI c) (nI o) (1 : Int32) z Q := by
  unfold wm_X12_lay
  refine ⟨fun _ => ⟨fun q => absurd rfl q, fun _ => ?_⟩, fun q => (by cases q)⟩
  unfold wc_X12_lay_26
  refine ⟨i_in (by omega) (by omega), fun z1 e1 => ⟨fun _ => ⟨fun q => absurd rfl q, fun _ => ⟨i_in (by omega) (by omega), fun z2 e2 => ?_⟩⟩, fun q => (by cases q)⟩⟩
  rw [i_cl (by omega), show vp_nar .char (115 : Int32) = nI 115 by decide +kernel] at e1
  rw [i_cl (by omega), show vp_nar .char (110 : Int32) = nI 110 by decide +kernel] at e2
  refine k z2 (by rw [e2]; refine fr_sai (by decide) ?_; rw [e1]; exact fr_sai (by decide) fr_r) (fun j => ?_)
  rw [e2, rw_aie, rw_upd, e1, rw_aie, rw_upd]
theorem tc_j {j : Nat} {q : Nat → Nat} (e : q j = p j) : tc w r q j = tc w r p j := by unfold tc; rw [Rp_j e, Dp_j e, e]
theorem tc_v1 {j : Nat} (h1 : Rp w r p j = true) : tc w r p j = 101 := by unfold tc; rw [h1, if_pos rfl]
theorem tc_v2 {j : Nat} (hw1 : 1 ≤ w) (e : p j = j + 8) : tc w r p j = 115 := by unfold tc; rw [Rp_d hw1 e, Dp_d e]; rfl
theorem tc_v3 {j : Nat} (hw : w ≤ 8) (e : p j + 8 = j) : tc w r p j = 110 := by unfold tc; rw [Rp_u hw e, Dp_u e, if_neg Bool.false_ne_true, if_neg Bool.false_ne_true, if_pos e]
theorem tc_v4 {j : Nat} (h1 : Rp w r p j = false) (h2 : Dp p j = false) (h3 : ¬ p j + 8 = j) : tc w r p j = 119 := by unfold tc; rw [h1, h2, if_neg Bool.false_ne_true, if_neg Bool.false_ne_true, if_neg h3]
/-- the reference flips -/
theorem sq_rflip90 {c : Nat} (hd : jd w h r S) (hj : jr w h r S z) (hp : pc w r S p) (ht : rto w r S (fun _ => false) p (tq_ai z 56)) (e : fq w h r S p c = true) (k : ∀ z', fr [(2, 56)] z z' → rto w r S (fun _ => false) (pf w p c) (tq_ai z' 56) → wc_X12_flip_169 Q z') : wc_X12_flip_90 Q (nI c) z := by
  have hw8 := hd.2.1
  have hw1 := hd.1
  have hh8 := hd.2.2.2.1
  have hr4 := jd_r hd
  have v := pf_v hd hp e
  obtain ⟨h1, h2, h3, s1, s2, s3, s4, h4⟩ := fq_t hd hp e
  have hb := bb_lt h1 hw8 h3 hr4
  have e8 : (c + 8) % 8 = c % 8 := by omega
  have h38 : (c + 8) % 8 + 1 < w ∨ r = true := by rw [e8]; exact h3
  have n1 : bb w c ≠ c + 8 := by omega
  have n2 : bb w c + 8 ≠ c := by omega
  have n3 : bb w c ≠ c := hb.2.2.1
  have b64 : bb w c + 8 < 64 := by omega
  unfold wc_X12_flip_90
  rw [hj.1.1, i_8, pk_rem (by omega) (by omega) (by omega), pk_div (by omega) (by omega) (by omega), i_1, i_add (c % 8) 1, pk_rem (by omega) (by omega) (by omega), pk_mul, i_add]
  refine ⟨?_, fun v1 e1 => ?_⟩
  · rw [i_0, i_eq (by omega) (by omega)]; omega
  have em : c / 8 * 8 + (c % 8 + 1) % w = bb w c := by
    unfold bb
    by_cases q : c % 8 + 1 < w
    · rw [if_pos q, Nat.mod_eq_of_lt q]; omega
    · have : c % 8 + 1 = w := by omega
      rw [if_neg q, this, Nat.mod_self]; omega
  rw [em] at e1
  subst e1
  rw [i_cl (by omega), rto_at ht (by omega) s1, i_add c 8, i_add (bb w c) 8]
  have c101 : nI (tc w r p c) = (101 : Int32) ↔ Rp w r p c = true := by
    have := tc_lt (w := w) (r := r) (p := p) (j := c)
    rw [show (101 : Int32) = nI 101 from rfl, i_eq (by omega) (by omega)]; exact tc_101
  rw [c101]
  refine ⟨i_in (by omega) (by omega), fun q => ?_, fun q => ?_⟩
  · -- it stands: it is laid across
    have q2 : p c ≠ bb w c := fun u => q ((Rp_iff h1 h3).mpr u)
    obtain ⟨v1, v2, v3, v4⟩ := v.2.1 q2
    refine sq_layA (by omega) (by omega) (fun z1 f1 g1 => ⟨rfl, ?_⟩)
    refine sq_layA (by omega) (by omega) (fun z2 f2 g2 => ⟨rfl, k z2 (fr_t f1 f2) (fun j hj64 hs _ => ?_)⟩)
    rw [g2, g1]
    by_cases j4 : j = bb w c + 8
    · rw [if_pos j4, j4]
      have a4' : pf w p c (bb w (c + 8)) = c + 8 := by rw [hb.2.2.2]; exact v4
      have t1 := Rp_bb (p := pf w p c) hr4 (by omega) h38 a4'
      have t2 := Dp_bb (p := pf w p c) hw8 a4'
      rw [hb.2.2.2] at t1 t2
      rw [tc_v4 t1 t2 (by rw [v4]; omega)]
    · rw [if_neg j4]
      by_cases j2 : j = c + 8
      · rw [if_pos j2, j2, tc_v1 (Rp_b (by omega) h38 (by rw [hb.2.2.2]; exact v3))]
      · rw [if_neg j2]
        by_cases j3 : j = bb w c
        · rw [if_pos j3, j3, tc_v4 (Rp_bb hr4 h1 h3 v2) (Dp_bb hw8 v2) (by rw [v2]; omega)]
        · rw [if_neg j3]
          by_cases j1 : j = c
          · rw [if_pos j1, j1, tc_v1 (Rp_b h1 h3 v1)]
          · rw [if_neg j1, tc_j (v.2.2 j j1 j2 j3 j4)]
            exact rto_at ht hj64 hs
  · have q2 : p c = bb w c := (Rp_iff h1 h3).mp q
    obtain ⟨v1, v2, v3, v4⟩ := v.1 q2
    refine sq_layD (by omega) (by omega) (fun z1 f1 g1 => ⟨rfl, ?_⟩)
    refine sq_layD (by omega) (by omega) (fun z2 f2 g2 => ⟨rfl, k z2 (fr_t f1 f2) (fun j hj64 hs _ => ?_)⟩)
    rw [g2, g1]
    by_cases j4 : j = bb w c + 8
    · rw [if_pos j4, j4, tc_v3 hw8 (by rw [v4])]
    · rw [if_neg j4]
      by_cases j3 : j = bb w c
      · rw [if_pos j3, j3, tc_v2 hw1 v3]
      · rw [if_neg j3]
        by_cases j2 : j = c + 8
        · rw [if_pos j2, j2, tc_v3 hw8 (by rw [v2])]
        · rw [if_neg j2]
          by_cases j1 : j = c
          · rw [if_pos j1, j1, tc_v2 hw1 v1]
          · rw [if_neg j1, tc_j (v.2.2 j j1 j2 j3 j4)]
            exact rto_at ht hj64 hs
theorem i_pm {m : Nat} : nI m + (-1 : Int32) + (1 : Int32) = nI m := by
  rw [Int32.add_assoc, show (-1 : Int32) + (1 : Int32) = nI 0 by decide +kernel, i_add, Nat.add_zero]
theorem sq_rfind {n : Nat} (hd : jd w h r S) (hj : jr w h r S z) (hp : pc w r S p) (ht : rto w r S (fun _ => false) p (tq_ai z 56)) (hn : n < fb_ct (fq w h r S p) 64) (k : ∀ c, c < 64 → fq w h r S p c = true → fb_ct (fq w h r S p) c = n → wc_X12_flip_90 Q (nI c) z) : wc_X12_flip_45 Q (nI n) (-1 : Int32) (-1 : Int32) z := by
  have hw8 := hd.2.1
  have ctb := fun m => fb_ct_le (fq w h r S p) m
  have n64 : n < 64 := Nat.lt_of_lt_of_le hn (ctb 64)
  unfold wc_X12_flip_45
  refine lp_inv (fun m s => s = (nI (fb_ct (fq w h r S p) m) + (-1 : Int32), nI m + (-1 : Int32), z) ∧ fb_ct (fq w h r S p) m ≤ n + 1 ∧ (fb_ct (fq w h r S p) m = n + 1 → 0 < m ∧ fq w h r S p (m - 1) = true ∧ fb_ct (fq w h r S p) (m - 1) = n)) 64 ?_ ⟨by rw [show fb_ct (fq w h r S p) 0 = 0 from rfl, show nI 0 + (-1 : Int32) = (-1 : Int32) by decide +kernel], Nat.zero_le _, fun q => absurd q (by show ¬ 0 = n + 1; omega)⟩
  rintro m s hm ⟨rfl, g1, g2⟩ B hB
  have bm := ctb m
  simp only
  have cmp : (nI n ≤ nI (fb_ct (fq w h r S p) m) + (-1 : Int32)) ↔ fb_ct (fq w h r S p) m = n + 1 := by
    rcases Nat.eq_zero_or_pos (fb_ct (fq w h r S p) m) with q | q
    · rw [q]
      refine ⟨fun u => ?_, fun u => by omega⟩
      rw [show nI 0 + (-1 : Int32) = (-1 : Int32) by decide +kernel, nu_le, i_ti (by omega)] at u
      have : (-1 : Int32).toInt = -1 := by decide +kernel
      omega
    · rw [i_m1 q, i_le (by omega) (by omega)]; omega
  unfold wb_X12_flip_45
  rw [cmp]
  refine ⟨fun h1 => ?_, fun h1 v e => ?_⟩
  · obtain ⟨a1, a2, a3⟩ := g2 h1
    rw [i_m1 a1]
    exact k (m - 1) (by omega) a2 a3
  · rw [i_pm] at e
    have hm64 : m < 64 := by
      refine Classical.byContradiction fun hx => ?_
      have : m = 64 := by omega
      subst this
      omega
    subst e
    have hB := hB hm64
    rw [fb_ct_succ] at hB
    have e1 : m + 1 - 1 = m := by omega
    rw [e1] at hB
    have t0 : fq w h r S p m = false → wc_X12_flip_84 (fun b2 b3 z => B (b2, b3, z)) Q (nI n) (nI m) (nI (fb_ct (fq w h r S p) m) + (-1 : Int32)) z := by
      intro q
      unfold wc_X12_flip_84 wc_X12_flip_85
      intro v e
      refine hB _ ⟨?_, by rw [q]; exact g1, fun u => ?_⟩
      · rw [e, q]
        have : nI m = nI (m + 1) + (-1 : Int32) := by rw [i_m1 (by omega)]; rfl
        rw [← this, Int32.add_zero]; rfl
      · rw [q] at u
        exact absurd u h1
    have t1 : fq w h r S p m = true → wc_X12_flip_85 (fun b2 b3 z => B (b2, b3, z)) Q (nI n) (nI m) (1 : Int32) (nI (fb_ct (fq w h r S p) m) + (-1 : Int32)) z := by
      intro q
      unfold wc_X12_flip_85
      intro v e
      refine hB _ ⟨?_, by rw [q, if_pos rfl]; omega, fun u => ?_⟩
      · rw [e, q, if_pos rfl]
        have a1 : nI m = nI (m + 1) + (-1 : Int32) := by rw [i_m1 (by omega)]; rfl
        have a2 : nI (fb_ct (fq w h r S p) m + 1) + (-1 : Int32) = nI (fb_ct (fq w h r S p) m) := by rw [i_m1 (by omega)]; rfl
        rw [← a1, a2, i_pm]
      · rw [q, if_pos rfl] at u
        exact ⟨by omega, q, by omega⟩
    rw [hj.1.1, i_8, pk_rem (by omega) (by omega) (by omega), pk_div (by omega) (by omega) (by omega), i_le (by omega) (by omega)]
    refine ⟨fun h2 => t0 ?_, fun h2 => ?_⟩
    · cases hc : fq w h r S p m
      · rfl
      · have := fq_w hc; omega
    · refine sq_isFlip hd hj hp ht (by omega) (by omega) ⟨_, rfl, ?_⟩
      have e8 : 8 * (m / 8) + m % 8 = m := by omega
      rw [e8]
      exact ⟨fun h3 => t0 (bi_0.mp h3), fun h3 => t1 (bi_n.mp h3)⟩
end RCOV
