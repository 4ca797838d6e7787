section SEA
variable {z : tq_S} {Q : tq_O → tq_S → Prop} {n P : Nat} {f : Nat → plc} {st : Nat → Nat} {T : Nat → Nat → Option Nat} {W : Nat → Nat} {G : Nat → Prop}
def FSe : List (Nat × Nat) := [(3, 34), (3, 35)]
/-- the row of places and where the first cells begin -/
def exr (n P : Nat) (f : Nat → plc) (st : Nat → Nat) (z : tq_S) : Prop := tq_fi z 1804 = nI n ∧ n ≤ 24 ∧ P ≤ 1152 ∧ (∀ p, p < P → tq_al z 29 p = lN (pcE (f p)) ∧ pcb (f p)) ∧ (∀ j, j ≤ n → tq_ai z 30 j = nI (st j) ∧ st j ≤ P) ∧ sts n P f st
theorem exr_f {F : List (Nat × Nat)} {z' : tq_S} (g : fr F z z') (h1 : (0, 1804) ∉ F) (h2 : (3, 29) ∉ F) (h3 : (2, 30) ∉ F) (hh : exr n P f st z) : exr n P f st z' := by
  obtain ⟨a, b, c, d, e, k⟩ := hh
  exact ⟨by rw [fr_fi g h1]; exact a, b, c, fun p hp => by rw [fr_al g h2]; exact d p hp, fun j hj => by rw [fr_ai g h3]; exact e j hj, k⟩
/-- what is kept is right -/
def memo (V : Nat → Nat) (G : Nat → Prop) (z : tq_S) : Prop := ∀ s, s < 2048 → tq_al z 34 s = 0 ∨ ∃ e, G e ∧ tq_al z 34 s = lN (e + 1) ∧ tq_al z 35 s = lN (V e)
def VV (n P : Nat) (f : Nat → plc) (T : Nat → Nat → Option Nat) (W : Nat → Nat) (e : Nat) : Nat := sr n P (fun i => (f i).1) T W 8 e
/-- what putting a place says -/
def wth (P : Nat) (f : Nat → plc) (T : Nat → Nat → Option Nat) (W : Nat → Nat) (G : Nat → Prop) (z : tq_S) : Prop := (∀ e i z1 Q', fr FSe z z1 → G e → i < P → Q' (.inl (some (.long (match T e i with | none => -1 | some e' => lN e')))) z1 → wm_X4_with (lN e) (lN (pcE (f i))) z1 Q') ∧ ∀ e z1 Q', G e → Q' (.inl (some (.long (lN (W e))))) z1 → wm_X4_weigh (lN e) z1 Q'
theorem VV_s (hn : n ≤ 24) (hT : tgd n P T G) {e : Nat} (hg : G e) (ho : ¬ n ≤ tro (e % 2 ^ 24)) : VV n P f T W e = fb_sm (fun i => if (f i).1 = tro (e % 2 ^ 24) then (match T e i with | none => 0 | some e' => VV n P f T W e') else 0) P := by
  unfold VV
  show (if n ≤ tro (e % 2 ^ 24) then W e else fb_sm (fun i => if (f i).1 = tro (e % 2 ^ 24) then (match T e i with | none => 0 | some e' => sr n P (fun i => (f i).1) T W 7 e') else 0) P) = _
  rw [if_neg ho]
  refine fb_sm_cong (fun i hi => ?_)
  by_cases u : (f i).1 = tro (e % 2 ^ 24)
  · rw [if_pos u, if_pos u]
    cases t : T e i with
    | none => rfl
    | some e' =>
      obtain ⟨g1, g2⟩ := hT.2 e i e' hg hi t
      exact sr_st hn hT 7 8 e' g1 (by omega) (by omega)
  · rw [if_neg u, if_neg u]
theorem VV_e {e : Nat} (ho : n ≤ tro (e % 2 ^ 24)) : VV n P f T W e = W e := by
  unfold VV sr
  rw [if_pos ho]
/-- the sum over the places of one first cell -/
def psm (n P : Nat) (f : Nat → plc) (T : Nat → Nat → Option Nat) (W : Nat → Nat) (e i : Nat) : Nat := fb_sm (fun i => if (f i).1 = tro (e % 2 ^ 24) then (match T e i with | none => 0 | some e' => VV n P f T W e') else 0) i
theorem psm_lo (hs : sts n P f st) {e i : Nat} (ho : tro (e % 2 ^ 24) ≤ n) (hi : i ≤ P) (h : i ≤ st (tro (e % 2 ^ 24))) : psm n P f T W e i = 0 := by
  unfold psm
  have : fb_sm (fun i => if (f i).1 = tro (e % 2 ^ 24) then (match T e i with | none => 0 | some e' => VV n P f T W e') else 0) i = fb_sm (fun _ => 0) i := fb_sm_cong (fun k hk => by
    have := (hs _ ho k (by omega)).mp (by omega)
    rw [if_neg (by omega)])
  rw [this, fb_sm_0]
theorem psm_hi (hs : sts n P f st) {e i : Nat} (ho : tro (e % 2 ^ 24) + 1 ≤ n) (hi : i ≤ P) (h : st (tro (e % 2 ^ 24) + 1) ≤ i) : psm n P f T W e P = psm n P f T W e i := by
  obtain ⟨d, rfl⟩ : ∃ d, P = i + d := ⟨P - i, by omega⟩
  unfold psm
  rw [fb_sm_split]
  have : fb_sm (fun k => if (f (i + k)).1 = tro (e % 2 ^ 24) then (match T e (i + k) with | none => 0 | some e' => VV n (i + d) f T W e') else 0) d = fb_sm (fun _ => 0) d := fb_sm_cong (fun k hk => by
    have := (hs _ ho (i + k) (by omega))
    rw [if_neg (fun u => by
      have := this.mpr (by omega)
      omega)])
  rw [this, fb_sm_0, Nat.add_zero]
theorem sq_search (hx : exr n P f st z) (hT : tgd n P T G) (hw : wth P f T W G z) : ∀ (d fuel depth e : Nat) (z1 : tq_S) (Q : tq_O → tq_S → Prop), depth + d = 8 → d < fuel → G e → 3 * depth ≤ pop (e % 2 ^ 24) → fr FSe z z1 → memo (VV n P f T W) G z1 → (∀ z2, fr FSe z z2 → memo (VV n P f T W) G z2 → Q (.inl (some (.long (lN (VV n P f T W e))))) z2) → wm_X4_search fuel (lN e) (nI depth) z1 Q := by
  have hn := hx.2.1
  intro d
  induction d with
  | zero =>
    intro fuel depth e z1 Q hd hf hg hp f1 m1 kk
    obtain ⟨fu, rfl⟩ : ∃ fu, fuel = fu + 1 := ⟨fuel - 1, by omega⟩
    have x1 := exr_f f1 (by decide) (by decide) (by decide) hx
    show we_X4_search (wm_X4_search fu) (lN e) (nI depth) z1 Q
    unfold we_X4_search
    have full := pop_full (hT.1 e hg).2 hn (by omega)
    refine sq_firstOpen ⟨_, rfl, ?_⟩
    dsimp only
    rw [x1.1, full, i_lt (by omega) (by omega)]
    refine ⟨fun q => absurd q (Nat.lt_irrefl _), fun _ => ?_⟩
    refine hw.2 e z1 _ hg ⟨_, rfl, ?_⟩
    have := kk z1 f1 m1
    rw [VV_e (by omega)] at this
    exact this
  | succ d ih =>
    intro fuel depth e z1 Q hd hf hg hp f1 m1 kk
    obtain ⟨fu, rfl⟩ : ∃ fu, fuel = fu + 1 := ⟨fuel - 1, by omega⟩
    have x1 := exr_f f1 (by decide) (by decide) (by decide) hx
    show we_X4_search (wm_X4_search fu) (lN e) (nI depth) z1 Q
    unfold we_X4_search
    obtain ⟨o, o24, oe, o1, o2⟩ := tro_ex (e % 2 ^ 24)
    refine sq_firstOpen ⟨_, rfl, ?_⟩
    dsimp only
    rw [x1.1, i_lt (by omega) (by omega)]
    refine ⟨fun q => ?_, fun q => ?_⟩
    rotate_left
    · refine hw.2 e z1 _ hg ⟨_, rfl, ?_⟩
      have := kk z1 f1 m1
      rw [VV_e (by omega)] at this
      exact this
    rw [i_8, i_lt (by omega) (by omega)]
    refine ⟨fun _ => ?_, fun q2 => absurd q2 (by omega)⟩
    intro v3 e3
    obtain ⟨sl, s1, s2⟩ := l_slot (lN e * (-7046029254386353131 : Int64))
    rw [s2] at e3
    subst e3
    have e60 := (hT.1 e hg).1
    have key1 : lN e + 1 = lN (e + 1) := by rw [show (1 : Int64) = lN 1 from rfl, l_add]
    rw [i_cl (by omega), key1]
    refine ⟨i_in s1 (by omega), fun q3 => ?_, fun q3 => ⟨i_in s1 (by omega), ?_⟩⟩
    rotate_left
    · rcases m1 sl s1 with u | ⟨e', g', u1, u2⟩
      · rw [u, show (0 : Int64) = lN 0 from rfl, fb_lN_inj (by omega) (by omega)] at q3
        omega
      · have e60' := (hT.1 e' g').1
        rw [u1, fb_lN_inj (by omega) (by omega)] at q3
        have : e' = e := by omega
        rw [u2, this]
        exact kk z1 f1 m1
    · -- the sum
      have sumk : ∀ z4, fr FSe z z4 → memo (VV n P f T W) G z4 → (vp_in (nI sl) 2048 ∧ ∀ z6, z6 = tq_sal z4 34 (vp_updL (tq_al z4 34) sl (lN (e + 1))) → vp_in (nI sl) 2048 ∧ ∀ z7, z7 = tq_sal z6 35 (vp_updL (tq_al z6 35) sl (lN (VV n P f T W e))) → Q (.inl (some (.long (lN (VV n P f T W e))))) z7) := by
        intro z4 f4 m4
        refine ⟨i_in s1 (by omega), fun z6 e6 => ⟨i_in s1 (by omega), fun z7 e7 => kk z7 ?_ (fun s hs => ?_)⟩⟩
        · rw [e7]
          refine fr_sal (by decide) ?_
          rw [e6]; exact fr_sal (by decide) f4
        · have a34 : tq_al z7 34 s = if s = sl then lN (e + 1) else tq_al z4 34 s := by
            rw [e7, rw_al_al, if_neg (by decide), e6, rw_ale, rw_updL]
          have a35 : tq_al z7 35 s = if s = sl then lN (VV n P f T W e) else tq_al z4 35 s := by
            have h35 : tq_al z6 35 = tq_al z4 35 := by rw [e6, rw_al_al, if_neg (by decide)]
            rw [e7, rw_ale, rw_updL, h35]
          rw [a34, a35]
          by_cases u : s = sl
          · rw [if_pos u, if_pos u]; exact Or.inr ⟨e, hg, rfl, rfl⟩
          · rw [if_neg u, if_neg u]; exact m4 s hs
      have no : ¬ n ≤ tro (e % 2 ^ 24) := by omega
      have vs := VV_s (f := f) (W := W) hn hT hg no
      have vs : VV n P f T W e = psm n P f T W e P := vs
      unfold wm_X4_sumOver
      obtain ⟨so1, so2⟩ := x1.2.2.2.2.1 (tro (e % 2 ^ 24)) (by omega)
      obtain ⟨sp1, sp2⟩ := x1.2.2.2.2.1 (tro (e % 2 ^ 24) + 1) (by omega)
      have P12 := x1.2.2.1
      rw [i_cl (by omega), so1]
      refine ⟨i_in (by omega) (by omega), fun v4 e4 => ?_⟩
      subst e4
      have p0 : psm n P f T W e (st (tro (e % 2 ^ 24))) = 0 := psm_lo x1.2.2.2.2.2 (by omega) so2 (Nat.le_refl _)
      unfold wc_X4_sumOver_11
      refine lp_inv (fun d' st' => ∃ z3, st' = (lN (psm n P f T W e (st (tro (e % 2 ^ 24)) + d')), nI (st (tro (e % 2 ^ 24)) + d'), z3) ∧ fr FSe z z3 ∧ memo (VV n P f T W) G z3) (P - st (tro (e % 2 ^ 24))) ?_ ⟨z1, by rw [Nat.add_zero, p0]; rfl, f1, m1⟩
      rintro d' st' hd' ⟨z3, rfl, f3, m3⟩ B hB
      simp only
      have x3 := exr_f f3 (by decide) (by decide) (by decide) hx
      obtain ⟨i, hi⟩ : ∃ i, i = st (tro (e % 2 ^ 24)) + d' := ⟨_, rfl⟩
      rw [← hi]
      unfold wb_X4_sumOver_11
      rw [i_1, i_add, i_cl (by omega), (x3.2.2.2.2.1 (tro (e % 2 ^ 24) + 1) (by omega)).1, i_le (by omega) (by omega)]
      refine ⟨i_in (by omega) (by omega), fun q4 => ?_, fun q4 => ?_⟩
      · refine ⟨_, rfl, ?_⟩
        have := psm_hi (T := T) (W := W) x1.2.2.2.2.2 (e := e) (i := i) (by omega) (by omega) q4
        have s := sumk z3 f3 m3
        rw [vs, this] at s
        exact s
      have iP : i < P := by omega
      have nx : ∀ z4 v, fr FSe z z4 → memo (VV n P f T W) G z4 → v = lN (psm n P f T W e (i + 1)) → wc_X4_sumOver_60 (wm_X4_search fu) (fun b5 b7 z => B (b5, b7, z)) (tq_wl fun r5 z4 => (vp_in (nI sl) 2048 ∧ ∀ z6, z6 = tq_sal z4 34 (vp_updL (tq_al z4 34) sl (lN (e + 1))) → vp_in (nI sl) 2048 ∧ ∀ z7, z7 = tq_sal z6 35 (vp_updL (tq_al z6 35) sl r5) → Q (.inl (some (.long r5))) z7)) (lN e) (nI (tro (e % 2 ^ 24))) (nI depth) v (nI i) z4 := by
        intro z4 v f4 m4 hv
        unfold wc_X4_sumOver_60
        intro v5 e5
        rw [i_1, i_add] at e5
        subst e5
        subst hv
        exact hB (by omega) _ ⟨z4, by rw [hi]; rfl, f4, m4⟩
      have fi : (f i).1 = tro (e % 2 ^ 24) := by
        have a := (x1.2.2.2.2.2 (tro (e % 2 ^ 24)) (by omega) i iP)
        have b := (x1.2.2.2.2.2 (tro (e % 2 ^ 24) + 1) (by omega) i iP)
        have b1 := b.mp (by omega)
        have a1 : ¬ (f i).1 < tro (e % 2 ^ 24) := fun u => by have := a.mpr u; omega
        omega
      have ps : psm n P f T W e (i + 1) = psm n P f T W e i + (match T e i with | none => 0 | some e' => VV n P f T W e') := by
        unfold psm
        rw [fb_sm_succ, if_pos fi]
      rw [i_cl (by omega), (x3.2.2.2.1 i iP).1]
      refine ⟨i_in (by omega) (by omega), ?_⟩
      refine hw.1 e i z3 _ f3 hg iP ⟨_, rfl, ?_⟩
      cases t : T e i with
      | none =>
        rw [t] at ps
        refine ⟨fun _ => nx z3 _ f3 m3 (by rw [ps]; rfl), fun u => absurd (by decide +kernel) u⟩
      | some e' =>
        rw [t] at ps
        obtain ⟨g1, g2⟩ := hT.2 e i e' hg iP t
        have e60' := (hT.1 e' g1).1
        show (lN e' < 0 → _) ∧ (¬ lN e' < 0 → _)
        rw [show (0 : Int64) = lN 0 from rfl, pk_lLT (by omega) (by omega)]
        refine ⟨fun u => absurd u (Nat.not_lt_zero _), fun _ => ?_⟩
        rw [i_add]
        refine ih fu (depth + 1) e' z3 _ (by omega) (by omega) g1 (by omega) f3 m3 (fun z5 f5 m5 => ⟨_, rfl, fun v ev => nx z5 v f5 m5 ?_⟩)
        rw [ev, l_add, ps]
end SEA
