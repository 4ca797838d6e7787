section SN4
variable {w h : Nat} {r : Bool} {S : Nat → Bool} {z : tq_S} {Q : tq_O → tq_S → Prop} {p : Nat → Nat} {H : Nat → Int} {b0 : Bool}
theorem sn_flips (hd : jd w h r S) (hj : jc w h r S z) (hb : tq_fi z 516 = bi b0) (hp : b0 = true → cvo w r S p (tq_fl z 517) (tq_fl z 518)) (hH : pln w h r S = true → b0 = true → pot w S p H) (hF : pln w h r S = true → b0 = true → ∀ c, c < 64 → fq w h r S p c = true → ∃ H', pot w S (pf w p c) H' ∧ fb_sm (apS S H' H) 81 = 4) (k : ∀ z', fr FHi z z' → Q (.inl (some (.int 1))) z') : wm_X11_flipsAreSound z Q := by
  unfold wm_X11_flipsAreSound
  rw [hb]
  refine ⟨fun _ => k z fr_r, fun q => ?_⟩
  rw [bi_n] at q
  have hp := hp q
  refine sc_plain hd hj ⟨_, rfl, fun q2 => ?_, fun _ => k z fr_r⟩
  rw [bi_n] at q2
  have q2 : pln w h r S = true := q2
  obtain ⟨rfl, -⟩ := pln_t q2
  have hH := hH q2 q
  have hF := hF q2 q
  unfold wm_X7_fillKept
  refine sq_fillRowK hd hj hp hH (fun z1 f1 h1 => ⟨rfl, rfl, ?_⟩)
  have j1 := jc_f f1 (by decide) (by decide) (by decide) (by decide) hj
  have c1 : cvo w false S p (tq_fl z1 517) (tq_fl z1 518) := by rw [fr_fl f1 (by decide), fr_fl f1 (by decide)]; exact hp
  refine sq_cflips hd j1 c1 ⟨_, rfl, ?_⟩
  have n64 := fb_ct_le (fq w h false S p) 64
  unfold wc_X11_flipsAreSound_53
  refine lp_inv (fun i s => ∃ z2, s = (nI i, z2) ∧ fr [(1, 772), (1, 773), (2, 13), (2, 15)] z1 z2) (fb_ct (fq w h false S p) 64) ?_ ⟨z1, rfl, fr_r⟩
  rintro i s hi ⟨z2, rfl, f2⟩ B hB
  simp only
  unfold wb_X11_flipsAreSound_53
  rw [i_le (by omega) (by omega)]
  have f12 : fr FHi z z2 := fr_t (fr_m (by decide) f1) (fr_m (by decide) f2)
  refine ⟨fun _ => k z2 f12, fun q3 => ?_⟩
  have j2 := jc_f f2 (by decide) (by decide) (by decide) (by decide) j1
  have c2 : cvo w false S p (tq_fl z2 517) (tq_fl z2 518) := by rw [fr_fl f2 (by decide), fr_fl f2 (by decide)]; exact c1
  refine sq_squareOf hd j2 c2 (fun e => ?_) (fun c c64 ec ei => ⟨_, rfl, ?_⟩)
  · have := e i (by omega) rfl
    omega
  refine sq_rflip hd c2 ec (fun vR hR => ⟨_, rfl, ?_⟩)
  refine sq_dflip hd j2 c2 ec (fun vD hD => ⟨_, rfl, ?_⟩)
  obtain ⟨H', p1, p2⟩ := hF c c64 ec
  have cv : cvo w false S (pf w p c) vR vD := pf_cvo hd c2 ec hR hD
  refine sq_fromKept hd j2 cv p1 (by rw [fr_ai f2 (by decide)]; exact h1) (fun z3 f3 h3 => ⟨_, rfl, ?_⟩)
  rw [p2]
  refine ⟨fun _ v e => ?_, fun ne => absurd rfl ne⟩
  rw [i_1, i_add] at e
  subst e
  exact hB (by omega) _ ⟨z3, rfl, fr_t f2 f3⟩
end SN4
