/-! ===== exact covers: the reference adds a place ===== -/
section RAD
variable {w h : Nat} {r : Bool} {S : Nat → Bool} {z : tq_S} {Q : tq_O → tq_S → Prop}
theorem plt_or {x y : plc} (hn : ¬ plt x y) (hne : x.1 ≠ y.1 ∨ x.2.1 ≠ y.2.1 ∨ x.2.2.1 ≠ y.2.2.1) : plt y x := by
  unfold plt at *
  by_cases a : y.1 < x.1
  · exact Or.inl a
  · have a1 : x.1 = y.1 := by
      refine Classical.byContradiction fun e => hn (Or.inl (by omega))
    refine Or.inr ⟨a1.symm, ?_⟩
    by_cases b : y.2.1 < x.2.1
    · exact Or.inl b
    · have b1 : x.2.1 = y.2.1 := by
        refine Classical.byContradiction fun e => hn (Or.inr ⟨a1, Or.inl (by omega)⟩)
      refine Or.inr ⟨b1.symm, ?_⟩
      refine ahd_or (fun e => ?_) (fun e => hn (Or.inr ⟨a1, Or.inr ⟨b1, e⟩⟩))
      rcases hne with u | u | u
      · exact u a1
      · exact u b1
      · exact u e
/-- a place of the reference -/
def rpb (S : Nat → Bool) (x : plc) : Prop := x.1 < fb_ct S 64 ∧ x.2.1 < 6 ∧ x.2.2.1 < 2 ^ fb_ct S 64 ∧ x.2.2.1.testBit x.1 = true ∧ (∀ j, j < x.1 → x.2.2.1.testBit j = false) ∧ x.2.2.2 = 0
def rat (S : Nat → Bool) (x : plc) (p : Nat) (z : tq_S) : Prop := exP S x.2.2.1 (tq_al z 70 p) ∧ tq_ai z 71 p = nI x.2.1 ∧ tq_ai z 72 p = nI (kth S x.1)
def rrow (S : Nat → Bool) (P : Nat) (f : Nat → plc) (z : tq_S) : Prop := tq_fi z 3294 = nI P ∧ (∀ p, p < P → rat S (f p) p z) ∧ (∀ p, p < P → rpb S (f p)) ∧ ∀ p p', p < p' → p' < P → plt (f p) (f p')
theorem kth_lt {p : Nat → Bool} {a b : Nat} (ha : a < fb_ct p 64) (hb : b < fb_ct p 64) : (nI (kth p a) < nI (kth p b) ↔ a < b) ∧ (nI (kth p a) = nI (kth p b) ↔ a = b) := by
  have a1 := (kth_ok ha).1
  have b1 := (kth_ok hb).1
  rw [i_lt (by omega) (by omega), i_eq (by omega) (by omega)]
  rcases Nat.lt_trichotomy a b with u | u | u
  · have := kth_mono hb u; omega
  · rw [u]
    exact ⟨⟨fun e => absurd e (Nat.lt_irrefl _), fun e => absurd e (Nat.lt_irrefl _)⟩, ⟨fun _ => rfl, fun _ => rfl⟩⟩
  · have := kth_mono ha u; omega
def FAd : List (Nat × Nat) := [(3, 70), (2, 71), (2, 72), (0, 3294)]
theorem sq_addPlace {P : Nat} {f : Nat → plc} {x : plc} {X : Int64} (hr : rrow S P f z) (hP : P < 4096) (hx : rpb S x) (hX : exP S x.2.2.1 X) (k0 : (∃ p, p < P ∧ f p = x) → Q (.inl none) z) (k1 : ∀ z' q, fr FAd z z' → q ≤ P → rrow S (P + 1) (insF f q x) z' → Q (.inl none) z') : wm_X12_addPlace (nI x.2.1) X z Q := by
  obtain ⟨h1, h2, h3, h4⟩ := hr
  obtain ⟨x1, x2, x3, x4, x5, x6⟩ := hx
  obtain ⟨c1, c2, c3⟩ := kth_ok (p := S) x1
  unfold wm_X12_addPlace
  refine sq_lowestL c1 (by rw [exP_k hX x1]; exact x4) (fun j hj => ?_) ⟨_, rfl, fun v0 e0 => ?_⟩
  · rw [hX j (by omega)]
    cases e : S j
    · rfl
    · have := idx_lt e hj
      rw [c3] at this
      rw [x5 _ this]; rfl
  rw [h1] at e0
  subst e0
  unfold wc_X12_addPlace_12
  refine lp_inv (fun d st => st = (nI (P - d), z) ∧ ∀ p, P - d ≤ p → p < P → plt x (f p)) P ?_ ⟨rfl, fun p a b => absurd b (by omega)⟩
  rintro d st hd ⟨rfl, hlt⟩ B hB
  simp only
  have stop : (0 < P - d → ¬ plt x (f (P - d - 1))) → wc_X12_addPlace_93 Q (nI x.2.1) X (nI (kth S x.1)) (nI (P - d)) z := by
    intro hs
    have put : (0 < P - d → plt (f (P - d - 1)) x) → wc_X12_addPlace_126 Q (nI x.2.1) X (nI (kth S x.1)) (nI (P - d)) z := by
      intro hl
      unfold wc_X12_addPlace_126
      intro v1 e1
      rw [h1] at e1
      subst e1
      unfold wc_X12_addPlace_132
      refine lp_inv (fun b st => ∃ z', st = (nI (P - b), z') ∧ fr FAd z z' ∧ tq_fi z' 3294 = nI P ∧ (∀ p, p < P - b → tq_al z' 70 p = tq_al z 70 p ∧ tq_ai z' 71 p = tq_ai z 71 p ∧ tq_ai z' 72 p = tq_ai z 72 p) ∧ ∀ p, P - b < p → p < P + 1 → tq_al z' 70 p = tq_al z 70 (p - 1) ∧ tq_ai z' 71 p = tq_ai z 71 (p - 1) ∧ tq_ai z' 72 p = tq_ai z 72 (p - 1)) d ?_ ⟨z, rfl, fr_r, h1, fun p _ => ⟨rfl, rfl, rfl⟩, fun p a b => absurd b (by omega)⟩
      rintro b st hb ⟨z1, rfl, f1, g1, lo1, hi1⟩ B2 hB2
      simp only
      unfold wb_X12_addPlace_132
      rw [i_le (by omega) (by omega)]
      refine ⟨fun q => ?_, fun q => ?_⟩
      · have bd : b = d := by omega
        subst bd
        unfold wc_X12_addPlace_193
        refine ⟨i_in (by omega) (by omega), fun z2 e2 => ⟨i_in (by omega) (by omega), fun z3 e3 => ⟨i_in (by omega) (by omega), fun z4 e4 z5 e5 => ?_⟩⟩⟩
        rw [i_cl (by omega)] at e2 e3 e4
        have a70 : ∀ p, tq_al z5 70 p = if p = P - b then X else tq_al z1 70 p := fun p => by
          rw [e5]; show tq_al z4 70 p = _
          rw [e4]; show tq_al z3 70 p = _
          rw [e3]; show tq_al z2 70 p = _
          rw [e2, rw_ale, rw_updL]
        have a71 : ∀ p, tq_ai z5 71 p = if p = P - b then nI x.2.1 else tq_ai z1 71 p := fun p => by
          rw [e5]; show tq_ai z4 71 p = _
          rw [e4, rw_ain (by decide), e3, rw_aie, rw_upd, e2]; rfl
        have a72 : ∀ p, tq_ai z5 72 p = if p = P - b then nI (kth S x.1) else tq_ai z1 72 p := fun p => by
          rw [e5]; show tq_ai z4 72 p = _
          rw [e4, rw_aie, rw_upd, e3, rw_ain (by decide), e2]; rfl
        have g5 : tq_fi z5 3294 = nI (P + 1) := by
          rw [e5]
          show tq_fi z4 3294 + 1 = _
          rw [e4]; show tq_fi z3 3294 + 1 = _
          rw [e3]; show tq_fi z2 3294 + 1 = _
          rw [e2]; show tq_fi z1 3294 + 1 = _
          rw [g1, i_1, i_add]
        refine k1 z5 (P - b) ?_ (by omega) ⟨g5, fun p hp => ?_, fun p hp => ?_, ?_⟩
        · rw [e5]
          refine fr_sfi (by decide) ?_
          rw [e4]
          refine fr_sai (by decide) ?_
          rw [e3]
          refine fr_sai (by decide) ?_
          rw [e2]; exact fr_sal (by decide) f1
        · unfold rat
          rw [a70, a71, a72]
          by_cases u : p = P - b
          · have ei : insF f (P - b) x p = x := by unfold insF; rw [if_neg (by omega), if_pos u]
            rw [ei, if_pos u, if_pos u, if_pos u]
            exact ⟨hX, rfl, rfl⟩
          · by_cases v : p < P - b
            · have ei : insF f (P - b) x p = f p := by unfold insF; rw [if_pos v]
              obtain ⟨l1, l2, l3⟩ := lo1 p v
              rw [ei, if_neg u, if_neg u, if_neg u, l1, l2, l3]; exact h2 p (by omega)
            · have ei : insF f (P - b) x p = f (p - 1) := by unfold insF; rw [if_neg v, if_neg u]
              obtain ⟨l1, l2, l3⟩ := hi1 p (by omega) hp
              rw [ei, if_neg u, if_neg u, if_neg u, l1, l2, l3]; exact h2 (p - 1) (by omega)
        · unfold insF
          split
          · exact h3 _ (by omega)
          · split
            · exact ⟨x1, x2, x3, x4, x5, x6⟩
            · exact h3 _ (by omega)
        · refine ins_sorted h4 (by omega) (fun p hp => ?_) (fun p p1 p2 => hlt p p1 p2)
          have l := hl (by omega)
          by_cases u : p = P - b - 1
          · rw [u]; exact l
          · exact plt_t _ _ _ (h4 p (P - b - 1) (by omega) (by omega)) l
      · rw [i_pmn (by omega), i_cl (by omega), i_cl (by omega)]
        refine ⟨i_in (by omega) (by omega), i_in (by omega) (by omega), fun z2 e2 => ⟨i_in (by omega) (by omega), i_in (by omega) (by omega), fun z3 e3 => ⟨i_in (by omega) (by omega), i_in (by omega) (by omega), fun z4 e4 v4 e5 => ?_⟩⟩⟩
        rw [i_m1 (by omega)] at e5
        subst e5
        have a70 : ∀ p, tq_al z4 70 p = if p = P - b then tq_al z1 70 (P - b - 1) else tq_al z1 70 p := fun p => by
          rw [e4]; show tq_al z3 70 p = _
          rw [e3]; show tq_al z2 70 p = _
          rw [e2, rw_ale, rw_updL]
        have a71 : ∀ p, tq_ai z4 71 p = if p = P - b then tq_ai z1 71 (P - b - 1) else tq_ai z1 71 p := fun p => by
          rw [e4, rw_ain (by decide), e3, rw_aie, rw_upd, e2]; rfl
        have a72 : ∀ p, tq_ai z4 72 p = if p = P - b then tq_ai z1 72 (P - b - 1) else tq_ai z1 72 p := fun p => by
          rw [e4, rw_aie, rw_upd, e3, rw_ain (by decide), e2]; rfl
        have lb := lo1 (P - b - 1) (by omega)
        refine hB2 (by omega) _ ⟨z4, by rw [show P - (b + 1) = P - b - 1 by omega], ?_, ?_, fun p hp => ?_, fun p p1 p2 => ?_⟩
        · rw [e4]
          refine fr_sai (by decide) ?_
          rw [e3]
          refine fr_sai (by decide) ?_
          rw [e2]; exact fr_sal (by decide) f1
        · rw [e4]; show tq_fi z3 3294 = _
          rw [e3]; show tq_fi z2 3294 = _
          rw [e2]; exact g1
        · rw [a70, a71, a72, if_neg (by omega), if_neg (by omega), if_neg (by omega)]
          exact lo1 p (by omega)
        · rw [a70, a71, a72]
          by_cases u : p = P - b
          · rw [if_pos u, if_pos u, if_pos u, u]; exact lb
          · rw [if_neg u, if_neg u, if_neg u]; exact hi1 p (by omega) p2
    unfold wc_X12_addPlace_93
    rw [show (0 : Int32) = nI 0 from rfl, i_le (by omega) (by omega)]
    refine ⟨fun q => put (fun e => absurd e (by omega)), fun q => ?_⟩
    have hs := hs (by omega)
    obtain ⟨r1, r2, r3⟩ := h2 (P - d - 1) (by omega)
    obtain ⟨b1, b2, b3, b4, b5, b6⟩ := h3 (P - d - 1) (by omega)
    rw [i_pmn (by omega), i_cl (by omega), r2, i_eq (by omega) (by omega)]
    refine ⟨i_in (by omega) (by omega), fun q2 => put (fun _ => plt_or hs (Or.inr (Or.inl (fun e => q2 e.symm)))), fun q2 => ⟨i_in (by omega) (by omega), fun q3 => put (fun _ => plt_or hs (Or.inr (Or.inr (fun e => q3 ?_)))), fun q3 => k0 ⟨P - d - 1, by omega, ?_⟩⟩⟩
    · rw [← e] at r1
      exact exP_1 r1 hX
    · rw [q3] at r1
      have em := exP_m r1 hX b3 x3
      have e1 : (f (P - d - 1)).1 = x.1 := by
        rcases Nat.lt_trichotomy (f (P - d - 1)).1 x.1 with u | u | u
        · rw [em, x5 _ u] at b4; cases b4
        · exact u
        · rw [← em, b5 _ u] at x4; cases x4
      exact Prod.ext e1 (Prod.ext q2 (Prod.ext em (by rw [b6, x6])))
  have dec : (0 < P - d → plt x (f (P - d - 1))) → 0 < P - d → wc_X12_addPlace_87 (fun b5 z => B (b5, z)) Q (nI x.2.1) X (nI (kth S x.1)) (nI (P - d)) z := by
    intro hl h0
    unfold wc_X12_addPlace_87
    intro v e
    rw [i_m1 (by omega)] at e
    subst e
    refine hB (by omega) _ ⟨by rw [show P - (d + 1) = P - d - 1 by omega], fun p p1 p2 => ?_⟩
    by_cases u : p = P - d - 1
    · rw [u]; exact hl h0
    · exact hlt p (by omega) p2
  unfold wb_X12_addPlace_12
  rw [show (0 : Int32) = nI 0 from rfl, i_le (by omega) (by omega)]
  refine ⟨fun q => stop (fun e => absurd e (by omega)), fun q => ?_⟩
  obtain ⟨r1, r2, r3⟩ := h2 (P - d - 1) (by omega)
  obtain ⟨b1, b2, b3, b4, b5, b6⟩ := h3 (P - d - 1) (by omega)
  have kl := kth_lt (p := S) x1 b1
  rw [i_pmn (by omega), i_cl (by omega), r2, r3, kl.1, (show (nI (kth S (f (P - d - 1)).1) = nI (kth S x.1)) ↔ (f (P - d - 1)).1 = x.1 from (kth_lt b1 x1).2), i_lt (by omega) (by omega), i_eq (by omega) (by omega)]
  refine ⟨i_in (by omega) (by omega), fun q2 => dec (fun _ => Or.inl q2) (by omega), fun q2 => ⟨i_in (by omega) (by omega), fun q3 => stop (fun _ u => ?_), fun q3 => ⟨i_in (by omega) (by omega), fun q4 => dec (fun _ => Or.inr ⟨q3.symm, Or.inl q4⟩) (by omega), fun q4 => ⟨i_in (by omega) (by omega), fun q5 => stop (fun _ u => ?_), fun q5 => ⟨i_in (by omega) (by omega), ?_⟩⟩⟩⟩⟩
  · rcases u with u | ⟨u, _⟩
    · exact q2 u
    · exact q3 u.symm
  · rcases u with u | ⟨_, u | ⟨u, _⟩⟩
    · exact q2 u
    · exact q4 u
    · exact q5 u.symm
  · refine sq_rAhead hX r1 x3 (fun ha => ⟨_, rfl, fun _ => stop (fun _ u => ?_), fun e => absurd rfl e⟩) (fun ha => ⟨_, rfl, fun e => absurd e (by decide +kernel), fun _ => dec (fun _ => Or.inr ⟨q3.symm, Or.inr ⟨q5.symm, ha⟩⟩) (by omega)⟩)
    rcases u with u | ⟨_, u | ⟨_, u⟩⟩
    · exact q2 u
    · exact q4 u
    · exact ha u
end RAD
