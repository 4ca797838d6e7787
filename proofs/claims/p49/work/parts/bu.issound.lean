section ISS
variable {w h : Nat} {r : Bool} {S : Nat → Bool} {z : tq_S} {Q : tq_O → tq_S → Prop} {p : Nat → Nat} {b0 : Bool} {kN : Nat} {C M Z : Nat → Nat} {A : Nat → Int64}
def FSs1 : List (Nat × Nat) := [(3, 3), (3, 4), (0, 134), (3, 17), (3, 18), (1, 136), (1, 137), (1, 772), (1, 773), (2, 13), (2, 14), (2, 15)]
def FSs2 : List (Nat × Nat) := FSs1 ++ FH ++ FP
def FSs : List (Nat × Nat) := FSs2 ++ (FRf ++ FCh)
def FSl : List (Nat × Nat) := FSs ++ (FG ++ [(3, 40), (3, 41)] ++ FLk) ++ (FX ++ FLk)
theorem sc_isSound (hd : jd w h r S) (hj : jc w h r S z) (hc : jfro w h r S z) (hh : jhav w h r S z) (hb : tq_fi z 516 = bi b0) (hp : b0 = true → cvo w r S p (tq_fl z 517) (tq_fl z 518)) (hpr : jpr w r S z) (hk : kdc kN C M Z A z) (hs : shps kN C Z A) (hT : fb_ct S 64 ≤ 24 → ∀ P f st g z', exc w h r S kN C M Z A P f st g z' → exn (fb_ct S 64) P f kN M < 2147483648) (he : jexc w h r S kN C M Z A z) (k : ∀ z', fr FSl z z' → jfro w h r S z' → jhav w h r S z' → jpr w r S z' → jexc w h r S kN C M Z A z' → (tq_fi z' 134 = tq_fi z 134 ∨ tq_fi z' 134 = tq_fi z 68) → (tq_fi z' 135 = tq_fi z 135 ∨ tq_fi z' 135 = tq_fi z 68) → (tq_fi z' 1220 = tq_fi z 1220 ∨ tq_fi z' 1220 = tq_fi z 68) → (tq_fi z' 1807 = tq_fi z 1807 ∨ tq_fi z' 1807 = tq_fi z 68) → (tq_fi z' 1808 = tq_fi z 1808 ∨ tq_fi z' 1808 = tq_fi z 1478) → Q (.inl (some (.int 1))) z') : wm_X11_isSound z Q := by
  obtain ⟨G, hG⟩ : ∃ G, pln w h r S = true → fam w h S G := by
    cases e : pln w h r S
    · exact ⟨fun _ _ => 0, fun u => (by cases u)⟩
    · obtain ⟨e1, e2⟩ := pln_t e
      subst e1
      obtain ⟨G, hG⟩ := fam_ex hd e2
      exact ⟨G, fun _ => hG⟩
  unfold wm_X11_isSound
  refine sn_counts3 hd hj hc (fun z1 f1 c1 s1 => ⟨_, rfl, fun u => absurd u (by decide +kernel), fun _ => ?_⟩)
  have j1 := jc_f f1 (by decide) (by decide) (by decide) (by decide) hj
  refine sn_number3 hd j1 c1 (by rw [fr_fi f1 (by decide)]; exact hb) (p := p) (fun q => by rw [fr_fl f1 (by decide), fr_fl f1 (by decide)]; exact hp q) (fun z2 f2 c2 s2 => ⟨_, rfl, fun u => absurd u (by decide +kernel), fun _ => ?_⟩)
  have f12 : fr FSs1 z z2 := fr_t (fr_m (by decide) f1) (fr_m (by decide) f2)
  have j2 := jc_f f12 (by decide) (by decide) (by decide) (by decide) hj
  have pcf : pln w h r S = true → b0 = true → jd w h false S ∧ pc w false S p := fun q q2 => by
    have e := (pln_t q).1
    subst e
    exact ⟨hd, (hp q2).1⟩
  refine sn_flips (H := G p) hd j2 (by rw [fr_fi f12 (by decide)]; exact hb) (p := p) (fun q => by rw [fr_fl f12 (by decide), fr_fl f12 (by decide)]; exact hp q) (fun q q2 => ((hG q).1 p (pcf q q2).2).1) (fun q q2 c hc e => ⟨G (pf w p c), fl_hF (pcf q q2).1 (hG q) (pcf q q2).2 (by have e9 := (pln_t q).1; subst e9; exact e)⟩) (fun z3 f3 => ⟨_, rfl, fun u => absurd u (by decide +kernel), fun _ => ?_⟩)
  have f13 : fr FSs1 z z3 := fr_t f12 (fr_m (by decide) f3)
  have j3 := jc_f f13 (by decide) (by decide) (by decide) (by decide) hj
  have c3 : jfro w h r S z3 := jfro_f f3 (by decide) c2
  have h3 : jhav w h r S z3 := jhav_f f13 (by decide) hh
  refine sn_pieces hd j3 c3 h3 (fun z4 f4 v4 e4 g4 s4 => ⟨_, rfl, fun u => absurd u (by decide +kernel), fun _ => ?_⟩)
  have f14 : fr (FSs1 ++ FH) z z4 := gl_2 f13 f4
  have j4 := jc_f f14 (by decide) (by decide) (by decide) (by decide) hj
  have p4 : jpr w r S z4 := jpr_f f14 (by decide) hpr
  refine sn_roles hd j4 p4 (fun z5 m f5 e5 p5 => ⟨_, rfl, fun u => absurd u (by decide +kernel), fun _ => ?_⟩)
  have f15 : fr FSs2 z z5 := gl_2 f14 f5
  have j5 := jc_f f15 (by decide) (by decide) (by decide) (by decide) hj
  have k5 : kdc kN C M Z A z5 := kdc_f f15 (by decide) (by decide) (by decide) (by decide) (by decide) hk
  have x5 : jexc w h r S kN C M Z A z5 := jexc_f f15 (by decide) he
  have pr5 : jpr w r S z5 := fun _ => ⟨m, p5⟩
  have c5 : jfro w h r S z5 := jfro_f f5 (by decide) g4
  have h5 : jhav w h r S z5 := jhav_f f5 (by decide) (fun _ => v4)
  have e68 : tq_fi z5 68 = tq_fi z 68 := fr_fi f15 (by decide)
  have e1478 : tq_fi z5 1478 = tq_fi z 1478 := fr_fi f15 (by decide)
  have s134 : tq_fi z5 134 = tq_fi z 68 := by rw [fr_fi (k := 134) f5 (by decide), s4, fr_fi f14 (by decide)]
  have s135 : tq_fi z5 135 = tq_fi z 68 := by rw [fr_fi (k := 135) f5 (by decide), e4, fr_fi f14 (by decide)]
  have s1220 : tq_fi z5 1220 = tq_fi z 68 := by rw [e5, fr_fi f14 (by decide)]
  have s1807 : tq_fi z5 1807 = tq_fi z 1807 := fr_fi f15 (by decide)
  have s1808 : tq_fi z5 1808 = tq_fi z 1808 := fr_fi f15 (by decide)
  have tail : ∀ z6, fr (FRf ++ FCh) z5 z6 → jexc w h r S kN C M Z A z6 → (tq_fi z6 1807 = tq_fi z 1807 ∨ tq_fi z6 1807 = tq_fi z 68) → (tq_fi z6 1808 = tq_fi z 1808 ∨ tq_fi z6 1808 = tq_fi z 1478) → (tq_wi fun r12 z11 => ((r12 = 0 → Q (.inl (some (.int 0))) z11) ∧ (¬ r12 = 0 → wm_X11_stripsAreSound z11 (tq_wi fun r14 z13 => ((r14 = 0 → Q (.inl (some (.int 0))) z13) ∧ (¬ r14 = 0 → wm_X11_hexagonsAreSound z13 (tq_wi fun r16 z15 => ((r16 = 0 → Q (.inl (some (.int 0))) z15) ∧ (¬ r16 = 0 → Q (.inl (some (.int 1))) z15))))))))) (.inl (some (.int 1))) z6 := by
    intro z6 f6 x6 t1 t2
    refine ⟨_, rfl, fun u => absurd u (by decide +kernel), fun _ => ?_⟩
    refine sn_strips (fun z7 f7 => ⟨_, rfl, fun u => absurd u (by decide +kernel), fun _ => ?_⟩)
    refine sn_hexagons (fun z8 f8 => ⟨_, rfl, fun u => absurd u (by decide +kernel), fun _ => ?_⟩)
    have f78 : fr ((FG ++ [(3, 40), (3, 41)] ++ FLk) ++ (FX ++ FLk)) z6 z8 := gl_2 f7 f8
    have f58 : fr ((FRf ++ FCh) ++ ((FG ++ [(3, 40), (3, 41)] ++ FLk) ++ (FX ++ FLk))) z5 z8 := gl_2 f6 f78
    refine k z8 (gl_2 (gl_2 (gl_2 f15 f6) f7) f8) (jfro_f f58 (by decide) c5) (jhav_f f58 (by decide) h5) (jpr_f f58 (by decide) pr5) (jexc_f f78 (by decide) x6) (Or.inr ?_) (Or.inr ?_) (Or.inr ?_) ?_ ?_
    · rw [fr_fi f58 (by decide)]; exact s134
    · rw [fr_fi f58 (by decide)]; exact s135
    · rw [fr_fi f58 (by decide)]; exact s1220
    · rw [fr_fi f78 (by decide)]; exact t1
    · rw [fr_fi f78 (by decide)]; exact t2
  refine sn_exact hd j5 k5 hs hT x5 (fun _ => tail z5 fr_r x5 (Or.inl s1807) (Or.inl s1808)) (fun h24 z6 P f st g f6 x6 t1 t2 t3 => tail z6 f6 (fun _ _ => ⟨P, f, st, g, x6, t3⟩) (Or.inr ?_) (Or.inr ?_))
  · rw [t1, fr_fi f6 (by decide)]; exact e68
  · rw [t2, fr_fi f6 (by decide)]; exact e1478
end ISS
