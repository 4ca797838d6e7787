/-! ===== a flip ===== -/
def pf (w : Nat) (p : Nat → Nat) (c : Nat) : Nat → Nat := if p c = bb w c then sw c (c + 8) (sw (bb w c) (bb w c + 8) p) else sw c (bb w c) (sw (c + 8) (bb w c + 8) p)
section FLIP
variable {w h : Nat} {r : Bool} {S : Nat → Bool} {z : tq_S} {Q : tq_O → tq_S → Prop} {p : Nat → Nat} {c : Nat}
theorem bb_lt (hc : c % 8 < w) (bw : w ≤ 8) (hr : c % 8 + 1 < w ∨ r = true) (hr4 : r = true → 4 ≤ w) : bb w c / 8 = c / 8 ∧ bb w c % 8 < w ∧ bb w c ≠ c ∧ bb w (c + 8) = bb w c + 8 := by
  have e8 : (c + 8) % 8 = c % 8 := by omega
  unfold bb
  rw [e8]
  by_cases q : c % 8 + 1 < w
  · rw [if_pos q, if_pos q]; omega
  · have := hr4 (hr.resolve_left q)
    rw [if_neg q, if_neg q]; omega
/-- what a flip needs: two pieces beside each other -/
theorem fq_t (hd : jd w h r S) (hp : pc w r S p) (e : fq w h r S p c = true) : c % 8 < w ∧ c / 8 + 1 < h ∧ (c % 8 + 1 < w ∨ r = true) ∧ S c = true ∧ S (bb w c) = true ∧ S (c + 8) = true ∧ S (bb w c + 8) = true ∧ ((p c = bb w c ∧ p (bb w c) = c ∧ p (c + 8) = bb w c + 8 ∧ p (bb w c + 8) = c + 8) ∨ (p c = c + 8 ∧ p (c + 8) = c ∧ p (bb w c) = bb w c + 8 ∧ p (bb w c + 8) = bb w c)) := by
  have hw8 := hd.2.1
  have hr4 := jd_r hd
  unfold fq at e
  simp only [Bool.and_eq_true, Bool.or_eq_true, decide_eq_true_eq] at e
  obtain ⟨⟨⟨h1, h2⟩, h3⟩, h4⟩ := e
  have hb := bb_lt h1 hw8 h3 hr4
  refine ⟨h1, h2, h3, ?_⟩
  rcases h4 with ⟨⟨a1, a2⟩, ⟨a3, a4⟩⟩ | ⟨⟨a1, a2⟩, ⟨a3, a4⟩⟩
  · rw [Rp_iff h1 h3] at a2
    have e8 : (c + 8) % 8 = c % 8 := by omega
    rw [Rp_iff (by omega) (by rw [e8]; exact h3), hb.2.2.2] at a4
    have p1 := hp c a1
    have p2 := hp (c + 8) a3
    rw [a2] at p1
    rw [a4] at p2
    exact ⟨a1, p1.1, a3, p2.1, Or.inl ⟨a2, p1.2.1, a4, p2.2.1⟩⟩
  · have b2 : p c = c + 8 := of_decide_eq_true a2
    have b4 : p (bb w c) = bb w c + 8 := of_decide_eq_true a4
    have p1 := hp c a1
    have p2 := hp (bb w c) a3
    rw [b2] at p1
    rw [b4] at p2
    exact ⟨a1, a3, p1.1, p2.1, Or.inr ⟨b2, p1.2.1, b4, p2.2.1⟩⟩
theorem nb_bb (hc : c % 8 < w) (bw : w ≤ 8) (hr : c % 8 + 1 < w ∨ r = true) : nb w r c (bb w c) = true := by
  unfold bb
  by_cases q : c % 8 + 1 < w
  · rw [if_pos q]; exact nb_right q
  · have hr' := hr.resolve_left q
    rw [if_neg q]
    apply nb_s
    have : c = c - (w - 1) + (w - 1) := by omega
    rw [this, show c - (w - 1) + (w - 1) - (w - 1) = c - (w - 1) by omega]
    exact nb_round hr' (by omega)
/-- the flipped cover, cell by cell -/
theorem pf_v (hd : jd w h r S) (hp : pc w r S p) (e : fq w h r S p c = true) : (p c = bb w c → (pf w p c c = c + 8 ∧ pf w p c (c + 8) = c ∧ pf w p c (bb w c) = bb w c + 8 ∧ pf w p c (bb w c + 8) = bb w c)) ∧ (p c ≠ bb w c → (pf w p c c = bb w c ∧ pf w p c (bb w c) = c ∧ pf w p c (c + 8) = bb w c + 8 ∧ pf w p c (bb w c + 8) = c + 8)) ∧ ∀ j, j ≠ c → j ≠ c + 8 → j ≠ bb w c → j ≠ bb w c + 8 → pf w p c j = p j := by
  obtain ⟨h1, h2, h3, -⟩ := fq_t hd hp e
  have hb := bb_lt h1 hd.2.1 h3 (jd_r hd)
  have n1 : bb w c ≠ c + 8 := by omega
  have n2 : bb w c + 8 ≠ c := by omega
  have n3 : bb w c ≠ c := hb.2.2.1
  refine ⟨fun q => ?_, fun q => ?_, fun j j1 j2 j3 j4 => ?_⟩
  · unfold pf; rw [if_pos q]; unfold sw
    refine ⟨by rw [if_pos rfl], by rw [if_neg (by omega), if_pos rfl], by rw [if_neg n3, if_neg n1, if_pos rfl], by rw [if_neg n2, if_neg (by omega), if_neg (by omega), if_pos rfl]⟩
  · unfold pf; rw [if_neg q]; unfold sw
    refine ⟨by rw [if_pos rfl], by rw [if_neg n3, if_pos rfl], by rw [if_neg (by omega), if_neg (by omega), if_pos rfl], by rw [if_neg n2, if_neg (by omega), if_neg (by omega), if_pos rfl]⟩
  · unfold pf; split
    · unfold sw; rw [if_neg j1, if_neg j2, if_neg j3, if_neg j4]
    · unfold sw; rw [if_neg j1, if_neg j3, if_neg j2, if_neg j4]
theorem pf_out (hd : jd w h r S) (hp : pc w r S p) (e : fq w h r S p c = true) {j : Nat} (hj : S j = true) (j1 : j ≠ c) (j2 : j ≠ c + 8) (j3 : j ≠ bb w c) (j4 : j ≠ bb w c + 8) : p j ≠ c ∧ p j ≠ c + 8 ∧ p j ≠ bb w c ∧ p j ≠ bb w c + 8 := by
  obtain ⟨-, -, -, -, -, -, -, h4⟩ := fq_t hd hp e
  have pj := (hp j hj).2.1
  refine ⟨fun u => ?_, fun u => ?_, fun u => ?_, fun u => ?_⟩ <;> rw [u] at pj <;> rcases h4 with ⟨a1, a2, a3, a4⟩ | ⟨a1, a2, a3, a4⟩ <;> omega
theorem pf_pc (hd : jd w h r S) (hp : pc w r S p) (e : fq w h r S p c = true) : pc w r S (pf w p c) := by
  have v := pf_v hd hp e
  obtain ⟨h1, h2, h3, s1, s2, s3, s4, h4⟩ := fq_t hd hp e
  have hb := bb_lt h1 hd.2.1 h3 (jd_r hd)
  have e8 : (c + 8) % 8 = c % 8 := by omega
  have nb8 : nb w r (c + 8) (bb w c + 8) = true := by
    have := nb_bb (r := r) (c := c + 8) (by omega) hd.2.1 (by rw [e8]; exact h3)
    rw [hb.2.2.2] at this; exact this
  intro j hj
  by_cases q : p c = bb w c
  · obtain ⟨v1, v2, v3, v4⟩ := v.1 q
    by_cases j1 : j = c
    · subst j1; rw [v1, v2]; exact ⟨s3, rfl, nb_down⟩
    · by_cases j2 : j = c + 8
      · subst j2; rw [v2, v1]; exact ⟨s1, rfl, nb_s nb_down⟩
      · by_cases j3 : j = bb w c
        · rw [j3, v3, v4]; exact ⟨s4, rfl, nb_down⟩
        · by_cases j4 : j = bb w c + 8
          · rw [j4, v4, v3]; exact ⟨s2, rfl, nb_s nb_down⟩
          · have o := pf_out hd hp e hj j1 j2 j3 j4
            rw [v.2.2 j j1 j2 j3 j4, v.2.2 (p j) o.1 o.2.1 o.2.2.1 o.2.2.2]
            exact hp j hj
  · obtain ⟨v1, v2, v3, v4⟩ := v.2.1 q
    by_cases j1 : j = c
    · subst j1; rw [v1, v2]; exact ⟨s2, rfl, nb_bb h1 hd.2.1 h3⟩
    · by_cases j2 : j = c + 8
      · subst j2; rw [v3, v4]; exact ⟨s4, rfl, nb8⟩
      · by_cases j3 : j = bb w c
        · rw [j3, v2, v1]; exact ⟨s1, rfl, nb_s (nb_bb h1 hd.2.1 h3)⟩
        · by_cases j4 : j = bb w c + 8
          · rw [j4, v4, v3]; exact ⟨s3, rfl, nb_s nb8⟩
          · have o := pf_out hd hp e hj j1 j2 j3 j4
            rw [v.2.2 j j1 j2 j3 j4, v.2.2 (p j) o.1 o.2.1 o.2.2.1 o.2.2.2]
            exact hp j hj
theorem Rp_j {j : Nat} {q : Nat → Nat} (e : q j = p j) : Rp w r q j = Rp w r p j := by unfold Rp; rw [e]
theorem Dp_j {j : Nat} {q : Nat → Nat} (e : q j = p j) : Dp q j = Dp p j := by unfold Dp; rw [e]
/-- the bits of the flipped cover -/
theorem pf_cvo (hd : jd w h r S) {R D R' D' : Int64} (hc : cvo w r S p R D) (e : fq w h r S p c = true) (hR : ∀ j, ct R' j = (ct R j ^^ (decide (j = c) || decide (j = c + 8)))) (hD : ∀ j, ct D' j = (ct D j ^^ (decide (j = c) || decide (j = bb w c)))) : cvo w r S (pf w p c) R' D' := by
  obtain ⟨hp, hR0, hD0⟩ := hc
  have v := pf_v hd hp e
  obtain ⟨h1, h2, h3, s1, s2, s3, s4, h4⟩ := fq_t hd hp e
  have hw8 := hd.2.1
  have hw1 := hd.1
  have hr4 := jd_r hd
  have hb := bb_lt h1 hw8 h3 hr4
  have e8 : (c + 8) % 8 = c % 8 := by omega
  have h38 : (c + 8) % 8 + 1 < w ∨ r = true := by rw [e8]; exact h3
  have n1 : bb w c ≠ c + 8 := by omega
  have n2 : bb w c + 8 ≠ c := by omega
  have n3 : bb w c ≠ c := hb.2.2.1
  refine ⟨pf_pc hd hp e, fun j => ?_, fun j => ?_⟩
  · rw [hR, hR0]
    by_cases q : p c = bb w c
    · obtain ⟨v1, v2, v3, v4⟩ := v.1 q
      obtain ⟨a1, a2, a3, a4⟩ := h4.resolve_right (fun u => by omega)
      by_cases j1 : j = c
      · subst j1
        rw [s1, Rp_b h1 h3 a1, Rp_d hw1 v1, decide_eq_true rfl]; rfl
      · by_cases j2 : j = c + 8
        · subst j2
          rw [s3, Rp_b (by omega) h38 (by rw [hb.2.2.2]; exact a3), Rp_u hw8 (by rw [v2]), decide_eq_true rfl]; simp
        · rw [decide_eq_false j1, decide_eq_false j2, Bool.or_false, Bool.xor_false]
          by_cases j3 : j = bb w c
          · rw [j3, Rp_bb hr4 h1 h3 a2, Rp_d hw1 v3]
          · by_cases j4 : j = bb w c + 8
            · rw [j4]
              have a4' : p (bb w (c + 8)) = c + 8 := by rw [hb.2.2.2]; exact a4
              have := Rp_bb (p := p) hr4 (by omega) h38 a4'
              rw [hb.2.2.2] at this
              rw [this, Rp_u hw8 (by rw [v4])]
            · rw [Rp_j (v.2.2 j j1 j2 j3 j4)]
    · obtain ⟨v1, v2, v3, v4⟩ := v.2.1 q
      obtain ⟨a1, a2, a3, a4⟩ := h4.resolve_left (fun u => q u.1)
      by_cases j1 : j = c
      · subst j1
        rw [s1, Rp_d hw1 a1, Rp_b h1 h3 v1, decide_eq_true rfl]; rfl
      · by_cases j2 : j = c + 8
        · subst j2
          rw [s3, Rp_u hw8 (by rw [a2]), Rp_b (by omega) h38 (by rw [hb.2.2.2]; exact v3), decide_eq_true rfl]; simp
        · rw [decide_eq_false j1, decide_eq_false j2, Bool.or_false, Bool.xor_false]
          by_cases j3 : j = bb w c
          · rw [j3, Rp_d hw1 a3, Rp_bb hr4 h1 h3 v2]
          · by_cases j4 : j = bb w c + 8
            · rw [j4]
              have a4' : pf w p c (bb w (c + 8)) = c + 8 := by rw [hb.2.2.2]; exact v4
              have := Rp_bb (p := pf w p c) hr4 (by omega) h38 a4'
              rw [hb.2.2.2] at this
              rw [this, Rp_u hw8 (by rw [a4])]
            · rw [Rp_j (v.2.2 j j1 j2 j3 j4)]
  · rw [hD, hD0]
    by_cases q : p c = bb w c
    · obtain ⟨v1, v2, v3, v4⟩ := v.1 q
      obtain ⟨a1, a2, a3, a4⟩ := h4.resolve_right (fun u => by omega)
      by_cases j1 : j = c
      · subst j1
        rw [s1, Dp_b a1, Dp_d v1, decide_eq_true rfl]; rfl
      · by_cases j3 : j = bb w c
        · rw [j3, s2, Dp_bb hw8 a2, Dp_d v3, decide_eq_true rfl]; simp
        · rw [decide_eq_false j1, decide_eq_false j3, Bool.or_false, Bool.xor_false]
          by_cases j2 : j = c + 8
          · subst j2
            have : Dp p (c + 8) = false := Dp_b (w := w) (by rw [hb.2.2.2]; exact a3)
            rw [this, Dp_u (by rw [v2])]
          · by_cases j4 : j = bb w c + 8
            · rw [j4]
              have a4' : p (bb w (c + 8)) = c + 8 := by rw [hb.2.2.2]; exact a4
              have := Dp_bb (p := p) hw8 a4'
              rw [hb.2.2.2] at this
              rw [this, Dp_u (by rw [v4])]
            · rw [Dp_j (v.2.2 j j1 j2 j3 j4)]
    · obtain ⟨v1, v2, v3, v4⟩ := v.2.1 q
      obtain ⟨a1, a2, a3, a4⟩ := h4.resolve_left (fun u => q u.1)
      by_cases j1 : j = c
      · subst j1
        rw [s1, Dp_d a1, Dp_b v1, decide_eq_true rfl]; rfl
      · by_cases j3 : j = bb w c
        · rw [j3, s2, Dp_d a3, Dp_bb hw8 v2, decide_eq_true rfl]; simp
        · rw [decide_eq_false j1, decide_eq_false j3, Bool.or_false, Bool.xor_false]
          by_cases j2 : j = c + 8
          · subst j2
            have : Dp (pf w p c) (c + 8) = false := Dp_b (w := w) (by rw [hb.2.2.2]; exact v3)
            rw [this, Dp_u (by rw [a2])]
          · by_cases j4 : j = bb w c + 8
            · rw [j4]
              have a4' : pf w p c (bb w (c + 8)) = c + 8 := by rw [hb.2.2.2]; exact v4
              have := Dp_bb (p := pf w p c) hw8 a4'
              rw [hb.2.2.2] at this
              rw [this, Dp_u (by rw [a4])]
            · rw [Dp_j (v.2.2 j j1 j2 j3 j4)]
/-- the class's flipped bits -/
theorem sq_rflip (hd : jd w h r S) (hc : cvo w r S p (tq_fl z 517) (tq_fl z 518)) (e : fq w h r S p c = true) (k : ∀ v, (∀ j, ct v j = (ct (tq_fl z 517) j ^^ (decide (j = c) || decide (j = c + 8)))) → Q (.inl (some (.long v))) z) : wm_X2_rightFlipped (nI c) z Q := by
  obtain ⟨h1, h2, -⟩ := fq_t hd hc.1 e
  have hh8 := hd.2.2.2.1
  have hw8 := hd.2.1
  unfold wm_X2_rightFlipped wm_X2_acrossPair
  rw [i_8, pk_rem (by omega) (by omega) (by omega), pk_div (by omega) (by omega) (by omega), i_1, i_add]
  refine sq_bit ⟨_, rfl, sq_bit ⟨_, rfl, _, rfl, k _ (fun j => ?_)⟩⟩
  have q1 : 8 * (c / 8) + c % 8 = c := by omega
  have q2 : 8 * (c / 8 + 1) + c % 8 = c + 8 := by omega
  rw [ct_xor, ct_or, ct_bit _ (by omega), ct_bit _ (by omega), q1, q2]
theorem sq_dflip (hd : jd w h r S) (hj : jc w h r S z) (hc : cvo w r S p (tq_fl z 517) (tq_fl z 518)) (e : fq w h r S p c = true) (k : ∀ v, (∀ j, ct v j = (ct (tq_fl z 518) j ^^ (decide (j = c) || decide (j = bb w c)))) → Q (.inl (some (.long v))) z) : wm_X2_downFlipped (nI c) z Q := by
  obtain ⟨h1, h2, h3, -⟩ := fq_t hd hc.1 e
  have hh8 := hd.2.2.2.1
  have hw8 := hd.2.1
  unfold wm_X2_downFlipped wm_X2_downPair
  rw [i_8, pk_rem (by omega) (by omega) (by omega), pk_div (by omega) (by omega) (by omega)]
  refine sq_bit ⟨_, rfl, sq_rightOf hd hj h1 ⟨_, rfl, ?_⟩⟩
  have e1 : (if c % 8 + 1 < w then nI (c % 8 + 1) else if r = true then nI 0 else (-1 : Int32)) = nI (if c % 8 + 1 < w then c % 8 + 1 else 0) := by
    by_cases q : c % 8 + 1 < w
    · rw [if_pos q, if_pos q]
    · rw [if_neg q, if_neg q, if_pos (h3.resolve_left q)]
  rw [e1]
  have lt8 : (if c % 8 + 1 < w then c % 8 + 1 else 0) < 8 := by split <;> omega
  refine sq_bit ⟨_, rfl, _, rfl, k _ (fun j => ?_)⟩
  have q1 : 8 * (c / 8) + c % 8 = c := by omega
  have q2 := bb_c (b := c / 8) h1 hw8
  rw [q1] at q2
  rw [ct_xor, ct_or, ct_bit _ (by omega), ct_bit _ (by omega), q1, ← q2]
end FLIP
/-! ===== what can be undone: the class ===== -/
def us (u k : Nat) : Nat := if u = 10 then k + 1 else k
def ul (u : Nat) : Nat := if u = 10 then 9 else u
def FU : List (Nat × Nat) := [(3, 9), (3, 10), (2, 11), (0, 522), (1, 517), (1, 518), (0, 516)]
section UNDO
variable {z : tq_S} {Q : tq_O → tq_S → Prop} {u : Nat}
theorem sq_drop (hb : ∀ k, k < 10 → ∃ b, tq_ai z 11 k = bi b) (k : ∀ z', fr [(3, 9), (3, 10), (2, 11), (0, 522)] z z' → tq_fi z' 522 = nI 9 → (∀ i, i < 9 → tq_ai z' 11 i = tq_ai z 11 (i + 1) ∧ tq_al z' 9 i = tq_al z 9 (i + 1) ∧ tq_al z' 10 i = tq_al z 10 (i + 1)) → Q (.inl none) z') : wm_X2_dropOldest z Q := by
  unfold wm_X2_dropOldest
  intro z1 e1
  have f1 : fr [(3, 9), (3, 10), (2, 11), (0, 522)] z z1 := by rw [e1]; exact fr_sfi (by decide) fr_r
  have p1 : tq_fi z1 522 = nI 9 := by rw [e1]; rfl
  have a1 : tq_ai z1 11 = tq_ai z 11 := by rw [e1]; rfl
  have a2 : tq_al z1 9 = tq_al z 9 := by rw [e1]; rfl
  have a3 : tq_al z1 10 = tq_al z 10 := by rw [e1]; rfl
  unfold wc_X2_dropOldest_8
  refine lp_inv (fun m s => ∃ z', s = (nI m, z') ∧ fr [(3, 9), (3, 10), (2, 11), (0, 522)] z z' ∧ tq_fi z' 522 = nI 9 ∧ (∀ i, i < m → tq_ai z' 11 i = tq_ai z 11 (i + 1) ∧ tq_al z' 9 i = tq_al z 9 (i + 1) ∧ tq_al z' 10 i = tq_al z 10 (i + 1)) ∧ ∀ i, m ≤ i → i < 10 → tq_ai z' 11 i = tq_ai z 11 i ∧ tq_al z' 9 i = tq_al z 9 i ∧ tq_al z' 10 i = tq_al z 10 i) 9 ?_ ⟨z1, rfl, f1, p1, fun i hi => by omega, fun i _ _ => by rw [a1, a2, a3]; exact ⟨rfl, rfl, rfl⟩⟩
  rintro m s hm ⟨z2, rfl, f2, p2, g1, g2⟩ B hB
  simp only
  unfold wb_X2_dropOldest_8
  rw [p2]
  refine ⟨fun h1 => ?_, fun h1 => ?_⟩
  · rw [i_le (by omega) (by omega)] at h1
    have : m = 9 := by omega
    subst this
    exact k z2 f2 p2 g1
  · rw [i_le (by omega) (by omega)] at h1
    rw [i_1, i_add]
    refine ⟨i_in (by omega) (by omega), i_in (by omega) (by omega), fun z3 e3 => ⟨i_in (by omega) (by omega), i_in (by omega) (by omega), fun z4 e4 => ⟨i_in (by omega) (by omega), i_in (by omega) (by omega), fun z5 e5 v e => ?_⟩⟩⟩
    rw [i_cl (by omega), i_cl (by omega)] at e3 e4 e5
    subst e
    have b3 : tq_al z3 10 = tq_al z2 10 := by rw [e3]; exact rw_aln (by decide)
    have b4 : tq_ai z4 11 = tq_ai z2 11 := by rw [e4]; show tq_ai z3 11 = _; rw [e3]; rfl
    obtain ⟨bb1, hbb⟩ := hb (m + 1) (by omega)
    have q1 : ∀ i, tq_ai z5 11 i = if i = m then tq_ai z 11 (m + 1) else tq_ai z2 11 i := fun i => by
      rw [e5, rw_aie, rw_upd, b4, (g2 (m + 1) (by omega) (by omega)).1, hbb, bi_v]
    have q2 : ∀ i, tq_al z5 9 i = if i = m then tq_al z 9 (m + 1) else tq_al z2 9 i := fun i => by
      rw [e5]
      show tq_al z4 9 i = _
      rw [e4, rw_aln (by decide), e3, rw_ale, rw_updL, (g2 (m + 1) (by omega) (by omega)).2.1]
    have q3 : ∀ i, tq_al z5 10 i = if i = m then tq_al z 10 (m + 1) else tq_al z2 10 i := fun i => by
      rw [e5]
      show tq_al z4 10 i = _
      rw [e4, rw_ale, rw_updL, b3, (g2 (m + 1) (by omega) (by omega)).2.2]
    refine hB (by omega) _ ⟨z5, rfl, ?_, ?_, fun i hi => ?_, fun i hi hi2 => ?_⟩
    · rw [e5]; refine fr_sai (by decide) ?_
      rw [e4]; refine fr_sal (by decide) ?_
      rw [e3]; exact fr_sal (by decide) f2
    · rw [e5]
      show tq_fi z4 522 = _
      rw [e4]
      show tq_fi z3 522 = _
      rw [e3]; exact p2
    · rw [q1, q2, q3]
      by_cases q : i = m
      · rw [if_pos q, if_pos q, if_pos q, q]; exact ⟨rfl, rfl, rfl⟩
      · rw [if_neg q, if_neg q, if_neg q]; exact g1 i (by omega)
    · rw [q1, q2, q3, if_neg (by omega), if_neg (by omega), if_neg (by omega)]
      exact g2 i (by omega) hi2
theorem sq_ctake {R D : Int64} {b0 : Bool} (hu : tq_fi z 522 = nI u) (hu10 : u ≤ 10) (hb : ∀ k, k < u → ∃ b, tq_ai z 11 k = bi b) (hb0 : tq_fi z 516 = bi b0) (k : ∀ z', fr FU z z' → tq_fi z' 522 = nI (ul u + 1) → (∀ i, i < ul u → tq_ai z' 11 i = tq_ai z 11 (us u i) ∧ tq_al z' 9 i = tq_al z 9 (us u i) ∧ tq_al z' 10 i = tq_al z 10 (us u i)) → tq_ai z' 11 (ul u) = bi b0 → tq_al z' 9 (ul u) = tq_fl z 517 → tq_al z' 10 (ul u) = tq_fl z 518 → tq_fl z' 517 = R → tq_fl z' 518 = D → tq_fi z' 516 = 1 → Q (.inl none) z') : wm_X2_take R D z Q := by
  have main : ∀ v z1, v < 10 → v = ul u → fr [(3, 9), (3, 10), (2, 11), (0, 522)] z z1 → tq_fi z1 522 = nI v → (∀ i, i < v → tq_ai z1 11 i = tq_ai z 11 (us u i) ∧ tq_al z1 9 i = tq_al z 9 (us u i) ∧ tq_al z1 10 i = tq_al z 10 (us u i)) → wc_X2_take_13 Q R D z1 := by
    intro v z1 hv hvu f1 p1 g1
    have c1 : tq_fi z1 516 = bi b0 := (fr_fi f1 (by decide)).trans hb0
    have c2 : tq_fl z1 517 = tq_fl z 517 := fr_fl f1 (by decide)
    have c3 : tq_fl z1 518 = tq_fl z 518 := fr_fl f1 (by decide)
    unfold wc_X2_take_13
    rw [p1]
    refine ⟨i_in (by omega) (by omega), fun z2 e2 => ?_⟩
    have p2 : tq_fi z2 522 = nI v := by rw [e2]; exact p1
    rw [p2]
    refine ⟨i_in (by omega) (by omega), fun z3 e3 => ?_⟩
    have p3 : tq_fi z3 522 = nI v := by rw [e3]; exact p2
    rw [p3]
    refine ⟨i_in (by omega) (by omega), fun z4 e4 z5 e5 z6 e6 z7 e7 z8 e8 => ?_⟩
    rw [i_cl (by omega)] at e2 e3 e4
    have d4 : tq_fi z3 516 = bi b0 := by rw [e3]; show tq_fi z2 516 = _; rw [e2]; exact c1
    rw [d4, bi_v] at e4
    have p4 : tq_fi z4 522 = nI v := by rw [e4]; exact p3
    rw [p4, i_1, i_add] at e5
    have A11 : ∀ i, tq_ai z8 11 i = if i = v then bi b0 else tq_ai z1 11 i := fun i => by
      rw [e8]; show tq_ai z7 11 i = _; rw [e7]; show tq_ai z6 11 i = _; rw [e6]; show tq_ai z5 11 i = _; rw [e5]; show tq_ai z4 11 i = _
      rw [e4, rw_aie, rw_upd, e3]; show (if i = v then bi b0 else tq_ai z2 11 i) = _; rw [e2]; rfl
    have A9 : ∀ i, tq_al z8 9 i = if i = v then tq_fl z 517 else tq_al z1 9 i := fun i => by
      rw [e8]; show tq_al z7 9 i = _; rw [e7]; show tq_al z6 9 i = _; rw [e6]; show tq_al z5 9 i = _; rw [e5]; show tq_al z4 9 i = _
      rw [e4]; show tq_al z3 9 i = _; rw [e3, rw_aln (by decide), e2, rw_ale, rw_updL, c2]
    have A10 : ∀ i, tq_al z8 10 i = if i = v then tq_fl z 518 else tq_al z1 10 i := fun i => by
      rw [e8]; show tq_al z7 10 i = _; rw [e7]; show tq_al z6 10 i = _; rw [e6]; show tq_al z5 10 i = _; rw [e5]; show tq_al z4 10 i = _
      rw [e4]; show tq_al z3 10 i = _; rw [e3, rw_ale, rw_updL]
      have : tq_fl z2 518 = tq_fl z 518 := by rw [e2]; exact c3
      rw [this, e2, rw_aln (by decide)]
    rw [← hvu] at k
    refine k z8 ?_ ?_ (fun i hi => ?_) ?_ ?_ ?_ ?_ ?_ ?_
    · rw [e8]; refine fr_sfi (by decide) ?_
      rw [e7]; refine fr_sfl (by decide) ?_
      rw [e6]; refine fr_sfl (by decide) ?_
      rw [e5]; refine fr_sfi (by decide) ?_
      rw [e4]; refine fr_sai (by decide) ?_
      rw [e3]; refine fr_sal (by decide) ?_
      rw [e2]; exact fr_sal (by decide) (fr_m (by decide) f1)
    · rw [e8]; show tq_fi z7 522 = _; rw [e7]; show tq_fi z6 522 = _; rw [e6]; show tq_fi z5 522 = _; rw [e5]; rfl
    · rw [A11, A9, A10, if_neg (by omega), if_neg (by omega), if_neg (by omega)]
      exact g1 i hi
    · rw [A11, if_pos rfl]
    · rw [A9, if_pos rfl]
    · rw [A10, if_pos rfl]
    · rw [e8]; show tq_fl z7 517 = _; rw [e7]; show tq_fl z6 517 = _; rw [e6]; rfl
    · rw [e8]; show tq_fl z7 518 = _; rw [e7]; rfl
    · rw [e8]; rfl
  unfold wm_X2_take
  rw [hu, show (10 : Int32) = nI 10 from rfl, i_lt (by omega) (by omega)]
  refine ⟨fun h1 => ?_, fun h1 => ?_⟩
  · have e1 : ul u = u := if_neg (by omega)
    refine main u z h1 e1.symm fr_r hu (fun i hi => ?_)
    have : us u i = i := if_neg (by omega)
    rw [this]; exact ⟨rfl, rfl, rfl⟩
  · have u10 : u = 10 := by omega
    subst u10
    refine sq_drop hb (fun z1 f1 p1 g1 => ⟨rfl, ?_⟩)
    exact main 9 z1 (by omega) rfl f1 p1 g1
theorem sq_cback (hu : tq_fi z 522 = nI (u + 1)) (hu10 : u < 10) {b : Bool} (hb : tq_ai z 11 u = bi b) (k : ∀ z', fr [(0, 522), (1, 517), (1, 518), (0, 516)] z z' → tq_fi z' 522 = nI u → tq_fl z' 517 = tq_al z 9 u → tq_fl z' 518 = tq_al z 10 u → tq_fi z' 516 = bi b → Q (.inl none) z') : wm_X2_takeBack z Q := by
  unfold wm_X2_takeBack
  rw [hu, i_0, i_le (by omega) (by omega)]
  refine ⟨fun q => by omega, fun _ z1 e1 => ?_⟩
  rw [i_1, pk_sub (by omega)] at e1
  have e0 : u + 1 - 1 = u := by omega
  rw [e0] at e1
  have p1 : tq_fi z1 522 = nI u := by rw [e1]; rfl
  rw [p1]
  refine ⟨i_in (by omega) (by omega), fun z2 e2 => ?_⟩
  have p2 : tq_fi z2 522 = nI u := by rw [e2]; exact p1
  rw [p2]
  refine ⟨i_in (by omega) (by omega), fun z3 e3 => ?_⟩
  have p3 : tq_fi z3 522 = nI u := by rw [e3]; exact p2
  rw [i_cl (by omega)] at e2 e3
  have a3 : tq_ai z3 11 u = bi b := by rw [e3]; show tq_ai z2 11 u = _; rw [e2]; show tq_ai z1 11 u = _; rw [e1]; exact hb
  rw [p3, i_cl (by omega), a3]
  refine ⟨i_in (by omega) (by omega), bi_z, fun z4 e4 => ?_⟩
  refine k z4 ?_ ?_ ?_ ?_ ?_
  · rw [e4]; refine fr_sfi (by decide) ?_
    rw [e3]; refine fr_sfl (by decide) ?_
    rw [e2]; refine fr_sfl (by decide) ?_
    rw [e1]; exact fr_sfi (by decide) fr_r
  · rw [e4]; exact p3
  · rw [e4]; show tq_fl z3 517 = _; rw [e3]; show tq_fl z2 517 = _; rw [e2, rw_fle, e1]; rfl
  · rw [e4]; show tq_fl z3 518 = _; rw [e3, rw_fle, e2]; show tq_al z1 10 u = _; rw [e1]; rfl
  · rw [e4]; rfl
end UNDO
