/-! ===== heights: the class's calls ===== -/
noncomputable def pln (w h : Nat) (r : Bool) (S : Nat → Bool) : Bool := !r && decide (gr_n w r (mi w h S) (rim w h r) = 0)
noncomputable def apS (S : Nat → Bool) (H H' : Nat → Int) : Nat → Nat := fun v => if cnr S v = true then (H v - H (lst S v) - (H' v - H' (lst S v))).natAbs else 0
theorem hts_d {S : Nat → Bool} {H H' : Nat → Int} {u : Int32} {A A' : Nat → Int32} (h1 : hts S H u A) (h2 : hts S H' u A') {v : Nat} (hv : v < 81) : (A v - A' v).toInt = (if cnr S v = true then H v - H (lst S v) - (H' v - H' (lst S v)) else 0) ∧ -600 ≤ (A v - A' v).toInt ∧ (A v - A' v).toInt ≤ 600 := by
  obtain ⟨a1, a2⟩ := h1 v hv
  obtain ⟨b1, b2⟩ := h2 v hv
  by_cases hc : cnr S v = true
  · obtain ⟨c1, c2, c3⟩ := a1 hc
    obtain ⟨d1, d2, d3⟩ := b1 hc
    rw [if_pos hc, nu_sub (by omega) (by omega)]
    omega
  · have hc : cnr S v = false := by simpa using hc
    rw [a2 hc, b2 hc, if_neg (by rw [hc]; exact Bool.false_ne_true)]
    have : (u - u).toInt = 0 := by rw [Int32.sub_self]; rfl
    rw [this]
    exact ⟨rfl, by decide, by decide⟩
theorem apS_b {S : Nat → Bool} {H H' : Nat → Int} {u : Int32} {A A' : Nat → Int32} (h1 : hts S H u A) (h2 : hts S H' u A') {v : Nat} (hv : v < 81) : (A v - A' v).toInt.natAbs = apS S H H' v ∧ apS S H H' v ≤ 600 := by
  obtain ⟨e, b1, b2⟩ := hts_d h1 h2 hv
  have : (A v - A' v).toInt.natAbs = apS S H H' v := by
    rw [e]
    unfold apS
    split <;> rfl
  refine ⟨this, ?_⟩
  rw [← this]; omega
section CHIGH2
variable {w h : Nat} {r : Bool} {S : Nat → Bool} {p p' : Nat → Nat} {H H' : Nat → Int} {z : tq_S} {Q : tq_O → tq_S → Prop}
theorem sp_absI {a : Int32} (k : ∀ v : Int32, (a.toInt ≠ -2147483648 → v.toInt = (a.toInt.natAbs : Int)) → Q (.inl (some (.int v))) z) : wm_J9_abs_0f7a4 a z Q := by
  unfold wm_J9_abs_0f7a4
  refine ⟨fun q => k _ (fun hn => ?_), fun q => k _ (fun hn => ?_)⟩
  · rw [nu_le, i_z] at q; omega
  · rw [nu_le, i_z] at q
    rw [fb_negI hn]; omega
theorem sq_fromKept {R D : Int64} (hd : jd w h false S) (hj : jc w h false S z) (hc : cvo w false S p R D) (hp : pot w S p H) (hk : hts S H' (-9999) (tq_ai z 14)) (kk : ∀ z', fr [(1, 772), (1, 773), (2, 13), (2, 15)] z z' → hts S H (-9999) (tq_ai z' 13) → Q (.inl (some (.int (nI (fb_sm (apS S H H') 81 / 4))))) z') : wm_X7_flipsFromKept R D z Q := by
  unfold wm_X7_flipsFromKept
  refine sq_fillRowN hd hj hc hp (fun z1 f1 h1 => ⟨rfl, ?_⟩)
  have h2 : hts S H' (-9999) (tq_ai z1 14) := by rw [fr_ai f1 (by decide)]; exact hk
  unfold wc_X7_flipsFromKept_16
  have sb : ∀ m, m ≤ 81 → fb_sm (apS S H H') m ≤ m * 600 := fun m hm => fb_sm_bound (fun v hv => (apS_b h1 h2 (by omega)).2)
  refine lp_for (fun m => (nI (fb_sm (apS S H H') m), nI m, z1)) 81 ?_ rfl
  intro m hm B hB
  simp only
  have s1 := sb m hm
  unfold wb_X7_flipsFromKept_16
  rw [i_81, i_le (by omega) (by omega)]
  refine ⟨fun q => ?_, fun q => ⟨i_in (by omega) (by omega), i_in (by omega) (by omega), ?_⟩⟩
  · have : m = 81 := by omega
    subst this
    rw [i_4, pk_div (by omega) (by omega) (by omega)]
    exact kk z1 f1 h1
  · rw [i_cl (by omega)]
    refine sp_absI (fun v ev => ⟨_, rfl, fun v3 e3 v4 e4 => ?_⟩)
    obtain ⟨e, b1, b2⟩ := hts_d h1 h2 (v := m) (by omega)
    have ev := ev (by omega)
    obtain ⟨a1, a2⟩ := apS_b h1 h2 (v := m) (by omega)
    have vN : v = nI (apS S H H' m) := by rw [nu_eq, ev, a1, i_ti (by omega)]
    rw [vN, i_add] at e3
    rw [i_1, i_add] at e4
    rw [e3, e4]
    exact hB (by omega)
theorem pln_t (hpl : pln w h r S = true) : r = false ∧ gr_n w r (mi w h S) (rim w h r) = 0 := by
  unfold pln at hpl
  rw [Bool.and_eq_true, Bool.not_eq_true', decide_eq_true_eq] at hpl
  exact hpl
def FHi : List (Nat × Nat) := [(1, 772), (1, 773), (2, 13), (2, 14), (2, 15)]
theorem sc_apart {b bk : Bool} (hd : jd w h r S) (hj : jc w h r S z) (hb : tq_fi z 516 = bi b) (hk : tq_fi z 519 = bi bk) (hc : b = true → cvo w r S p (tq_fl z 517) (tq_fl z 518)) (hck : bk = true → cvo w r S p' (tq_fl z 520) (tq_fl z 521)) (hp : pln w h r S = true → b = true → pot w S p H) (hp' : pln w h r S = true → bk = true → pot w S p' H') (k4 : pln w h r S = false → Q (.inr 4) z) (k5 : pln w h r S = true → (b && bk) = false → Q (.inr 5) z) (k1 : pln w h r S = true → b = true → bk = true → ∀ z', fr FHi z z' → Q (.inl (some (.int (nI (fb_sm (apS S H H') 81 / 4))))) z') : wm_X11_apart z Q := by
  unfold wm_X11_apart
  refine sc_plain hd hj ⟨_, rfl, fun q => ?_, fun q => ?_⟩
  · rw [bi_n] at q
    have q : pln w h r S = true := q
    obtain ⟨rfl, -⟩ := pln_t q
    unfold wc_X11_apart_40
    rw [hb, hk]
    refine ⟨fun q2 => ?_, fun q2 => ⟨fun q3 => ?_, fun q3 => ?_⟩⟩
    · rw [bi_0] at q2
      exact k5 q (by rw [q2]; rfl)
    · rw [bi_n] at q2 q3
      unfold wm_X7_fillKept
      refine sq_fillRowK hd hj (hck q3) (hp' q q3) (fun z1 f1 h1 => ⟨rfl, rfl, ?_⟩)
      have j1 := jc_f f1 (by decide) (by decide) (by decide) (by decide) hj
      refine sq_fromKept hd j1 (by rw [fr_fl f1 (by decide), fr_fl f1 (by decide)]; exact hc q2) (hp q q2) h1 (fun z2 f2 h2 => ⟨_, rfl, ?_⟩)
      exact k1 q q2 q3 z2 (fr_t (fr_m (by decide) f1) (fr_m (by decide) f2))
    · rw [bi_0] at q3
      exact k5 q (by rw [q3]; simp)
  · rw [bi_0] at q
    exact k4 q
end CHIGH2
