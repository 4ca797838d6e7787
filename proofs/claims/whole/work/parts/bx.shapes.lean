/-! ===== the shapes of a new kind ===== -/
section SHN
variable {T s : Int64} {V : Int → Int → Prop} {m : Nat}
theorem ct_mk (f : Nat → Bool) : ∀ n, n ≤ 64 → ∃ v : Int64, ∀ j, ct v j = (decide (j < n) && f j)
  | 0, _ => ⟨0, fun j => by rw [ct_0, decide_eq_false (by omega)]; rfl⟩
  | n + 1, h => by
    obtain ⟨v, hv⟩ := ct_mk f n (by omega)
    cases q : f n
    · refine ⟨v, fun j => ?_⟩
      rw [hv]
      by_cases e : j = n
      · rw [e, q, decide_eq_false (by omega : ¬ n < n), Bool.and_false, Bool.and_false]
      · have : (j < n) ↔ (j < n + 1) := by omega
        rw [dq_lt this]
    · refine ⟨v ||| (1 : Int64) <<< ((Int32.toInt64 (nI n)) &&& 63), fun j => ?_⟩
      rw [ct_or, hv, ct_bit j (by omega)]
      by_cases e : j = n
      · rw [e, q, decide_eq_false (by omega : ¬ n < n), decide_eq_true rfl, decide_eq_true (by omega : n < n + 1)]; rfl
      · have : (j < n) ↔ (j < n + 1) := by omega
        rw [dq_lt this, decide_eq_false e, Bool.or_false]
theorem lst_ex {P : Nat → Prop} : ∀ n, P n → ∃ k, P k ∧ ∀ j, j < k → ¬ P j := by
  intro n
  induction n using Nat.strongRecOn with
  | ind n ih =>
    intro hn
    by_cases q : ∃ j, j < n ∧ P j
    · obtain ⟨j, h1, h2⟩ := q
      exact ih j h1 h2
    · exact ⟨n, hn, fun j hj hp => q ⟨j, hj, hp⟩⟩
/-- what lies within six by six can be put into the corner -/
theorem nz_ex (hV : ∃ x y, V x y) (hb : ∀ x y, V x y → 0 ≤ x ∧ x < 6 ∧ 0 ≤ y ∧ y < 6) : ∃ s, nz V s := by
  obtain ⟨x0, y0, h0⟩ := hV
  have b0 := hb _ _ h0
  obtain ⟨a, ⟨y1, ha⟩, la⟩ := lst_ex (P := fun k : Nat => ∃ y, V (k : Int) y) x0.toNat ⟨y0, by rw [Int.toNat_of_nonneg b0.1]; exact h0⟩
  obtain ⟨b, ⟨x1, hbb⟩, lb⟩ := lst_ex (P := fun k : Nat => ∃ x, V x (k : Int)) y0.toNat ⟨x0, by rw [Int.toNat_of_nonneg b0.2.2.1]; exact h0⟩
  have ma : ∀ x y, V x y → (a : Int) ≤ x := fun x y hxy => by
    have bb := hb _ _ hxy
    refine Classical.byContradiction fun u => la x.toNat (by omega) ⟨y, ?_⟩
    rw [Int.toNat_of_nonneg bb.1]; exact hxy
  have mb : ∀ x y, V x y → (b : Int) ≤ y := fun x y hxy => by
    have bb := hb _ _ hxy
    refine Classical.byContradiction fun u => lb y.toNat (by omega) ⟨x, ?_⟩
    rw [Int.toNat_of_nonneg bb.2.2.1]; exact hxy
  obtain ⟨v, hv⟩ := ct_mk (fun j => @decide (V (((j % 6 : Nat) : Int) + a) (((j / 6 : Nat) : Int) + b)) (Classical.propDecidable _)) 36 (by omega)
  have key : ∀ j, j < 36 → (ct v j = true ↔ V (((j % 6 : Nat) : Int) + a) (((j / 6 : Nat) : Int) + b)) := by
    intro j hj
    rw [hv, decide_eq_true hj, Bool.true_and]
    exact ⟨fun u => @of_decide_eq_true _ (Classical.propDecidable _) u, fun u => @decide_eq_true _ (Classical.propDecidable _) u⟩
  have bw : ∀ x y, bsh v x y ↔ V (x + a) (y + b) := by
    intro x y
    constructor
    · rintro ⟨h1, h2, h3, h4, h5⟩
      have := (key _ (by omega)).mp h5
      rw [show (((6 * y + x).toNat % 6 : Nat) : Int) = x by omega, show (((6 * y + x).toNat / 6 : Nat) : Int) = y by omega] at this
      exact this
    · intro u
      have b1 := hb _ _ u
      have m1 := ma _ _ u
      have m2 := mb _ _ u
      refine ⟨by omega, by omega, by omega, by omega, (key _ (by omega)).mpr ?_⟩
      rw [show (((6 * y + x).toNat % 6 : Nat) : Int) = x by omega, show (((6 * y + x).toNat / 6 : Nat) : Int) = y by omega]
      exact u
  refine ⟨v, fun k hk => ?_, ⟨a, b, bw⟩, fun x y u => ⟨u.1, u.2.2.1⟩, ⟨y1 - b, ?_⟩, ⟨x1 - a, ?_⟩⟩
  · rw [hv] at hk
    simp only [Bool.and_eq_true, decide_eq_true_eq] at hk
    exact hk.1
  · rw [bw, Int.zero_add, Int.sub_add_cancel]; exact ha
  · rw [bw, Int.zero_add, Int.sub_add_cancel]; exact hbb
theorem mvp_u {i i' : Nat} (hi : i < 36) (hi' : i' < 36) (e : mvp m i = mvp m i') : i = i' := by
  have a := (mvp_V (m := m) (V := fun x y => x = ((i % 6 : Nat) : Int) ∧ y = ((i / 6 : Nat) : Int)) hi).mpr ⟨rfl, rfl⟩
  rw [e] at a
  have b := (mvp_V (m := m) hi').mp a
  omega
/-- a moved shape has as many cells -/
theorem nz_ct (hm : m < 8) (hT : wS T) (hs : nz (mo m (bsh T)) s) : fb_ct (ct s) 64 = fb_ct (ct T) 64 := by
  obtain ⟨w1, ⟨a, b, tw⟩, -⟩ := hs
  have R : ∀ i j, i < 36 → j < 36 → ((mvp m i).1 : Int) = ((j % 6 : Nat) : Int) + a → ((mvp m i).2 : Int) = ((j / 6 : Nat) : Int) + b → (ct s j = true ↔ ct T i = true) := by
    intro i j hi hj e1 e2
    rw [← bsh_k hj, tw, ← e1, ← e2, mvp_V hi, bsh_k hi]
  have toT : ∀ j, ct s j = true → ∃ i, i < 36 ∧ ct T i = true ∧ ((mvp m i).1 : Int) = ((j % 6 : Nat) : Int) + a ∧ ((mvp m i).2 : Int) = ((j / 6 : Nat) : Int) + b := by
    intro j hj
    have j36 := w1 j hj
    have u := (tw _ _).mp ((bsh_k j36).mpr hj)
    have o := mo_out hm u
    obtain ⟨i, hi, e⟩ := mvp_o (m := m) (x := (((j % 6 : Nat) : Int) + a).toNat) (y := (((j / 6 : Nat) : Int) + b).toNat) (by omega) (by omega)
    have e1 : ((mvp m i).1 : Int) = ((j % 6 : Nat) : Int) + a := by rw [e]; exact Int.toNat_of_nonneg o.1
    have e2 : ((mvp m i).2 : Int) = ((j / 6 : Nat) : Int) + b := by rw [e]; exact Int.toNat_of_nonneg o.2.2.1
    exact ⟨i, hi, (R i j hi j36 e1 e2).mp hj, e1, e2⟩
  have toS : ∀ i, ct T i = true → ∃ j, j < 36 ∧ ct s j = true ∧ ((mvp m i).1 : Int) = ((j % 6 : Nat) : Int) + a ∧ ((mvp m i).2 : Int) = ((j / 6 : Nat) : Int) + b := by
    intro i hi
    have i36 := hT i hi
    have u := (mvp_V (m := m) (V := bsh T) i36).mpr ((bsh_k i36).mpr hi)
    have v : bsh s (((mvp m i).1 : Int) - a) (((mvp m i).2 : Int) - b) := by
      rw [tw, Int.sub_add_cancel, Int.sub_add_cancel]; exact u
    obtain ⟨v1, v2, v3, v4, v5⟩ := v
    refine ⟨_, by omega, v5, by omega, by omega⟩
  refine Nat.le_antisymm ?_ ?_
  · refine cinj (g := fun j => @dite _ (ct s j = true) (Classical.propDecidable _) (fun h => Classical.choose (toT j h)) (fun _ => 0)) (fun j hj hP => ?_) (fun j j' hj hj' hP hP' e => ?_)
    · rw [dif_pos hP]
      obtain ⟨c1, c2, -⟩ := Classical.choose_spec (toT j hP)
      exact ⟨by omega, c2⟩
    · rw [dif_pos hP, dif_pos hP'] at e
      obtain ⟨-, -, c1, c2⟩ := Classical.choose_spec (toT j hP)
      obtain ⟨-, -, d1, d2⟩ := Classical.choose_spec (toT j' hP')
      rw [e] at c1 c2
      omega
  · refine cinj (g := fun j => @dite _ (ct T j = true) (Classical.propDecidable _) (fun h => Classical.choose (toS j h)) (fun _ => 0)) (fun j hj hP => ?_) (fun j j' hj hj' hP hP' e => ?_)
    · rw [dif_pos hP]
      obtain ⟨c1, c2, -⟩ := Classical.choose_spec (toS j hP)
      exact ⟨by omega, c2⟩
    · rw [dif_pos hP, dif_pos hP'] at e
      obtain ⟨-, -, c1, c2⟩ := Classical.choose_spec (toS j hP)
      obtain ⟨-, -, d1, d2⟩ := Classical.choose_spec (toS j' hP')
      rw [e] at c1 c2
      exact mvp_u (m := m) (hT j hP) (hT j' hP') (Prod.ext (by omega) (by omega))
theorem shps_new {me : Nat → Bool} {i : Nat} (hT : wS T) (h3 : 3 ≤ fb_ct (ct T) 64) (hi : i < (pl (shf T) me 8).1) : wS ((pl (shf T) me 8).2 i) ∧ nmz (bsh ((pl (shf T) me 8).2 i)) ∧ fb_ct (ct ((pl (shf T) me 8).2 i)) 64 = fb_ct (ct T) 64 := by
  obtain ⟨j, hj, -, e⟩ := pl_f 8 i hi
  obtain ⟨c, c64, hc⟩ := fb_ct_pos.mp (show 0 < fb_ct (ct T) 64 by omega)
  have c36 := hT c hc
  obtain ⟨s, hs⟩ := nz_ex (V := mo j (bsh T)) ⟨_, _, (mvp_V (m := j) (V := bsh T) c36).mpr ((bsh_k c36).mpr hc)⟩ (fun x y u => mo_out hj u)
  have es : (pl (shf T) me 8).2 i = s := e.trans (nzs_e hs).symm
  rw [es]
  exact ⟨hs.1, hs.2.2, nz_ct hj hT hs⟩
theorem kfam_new {A A' : Nat → Int64} {C : Nat → Nat} {kN : Nat} {me : Nat → Bool} (kf : kfam kN C A) (hc : ∀ k, k < kN → C k ≤ 8) (hT : wS T) (h3 : 3 ≤ fb_ct (ct T) 64) (h6 : fb_ct (ct T) 64 ≤ 6) (hb : ¬ kbad A' C kN T me 8) (eA : ∀ k, k < kN → ∀ i, i < C k → A' (8 * k + i) = A (8 * k + i)) : kfam (kN + 1) (fun k => if k = kN then (pl (shf T) me 8).1 else C k) (fun j => if 8 * kN ≤ j then (pl (shf T) me 8).2 (j - 8 * kN) else A j) := by
  have hg : hgp T := Classical.byContradiction fun u => hb (Or.inl u)
  have nk : ∀ m, m < 8 → me m = true → ¬ kn A' C kN (shf T m) := fun m h1 h2 h3 => hb (Or.inr ⟨m, h1, h2, h3⟩)
  obtain ⟨c, c64, hcc⟩ := fb_ct_pos.mp (show 0 < fb_ct (ct T) 64 by omega)
  have c36 := hT c hcc
  have cross : ∀ k i i', k < kN → i < C k → i' < (pl (shf T) me 8).1 → ¬ A (8 * k + i) = (pl (shf T) me 8).2 i' := by
    intro k i i' hk hi hi' e
    obtain ⟨j, hj, hm, e2⟩ := pl_f 8 i' hi'
    exact nk j hj hm ⟨k, hk, i, hi, (eA k hk i hi).trans (e.trans e2)⟩
  refine ⟨fun k hk => ?_, fun k k' i i' hk hk' hi hi' e => ?_⟩
  · dsimp only
    by_cases q : k = kN
    · subst q
      refine ⟨T, hT, hg, h3, h6, fun i hi => ?_⟩
      rw [if_pos rfl] at hi
      rw [if_pos (by omega), show 8 * k + i - 8 * k = i by omega]
      obtain ⟨j, hj, -, e⟩ := pl_f 8 i hi
      obtain ⟨s, hs⟩ := nz_ex (V := mo j (bsh T)) ⟨_, _, (mvp_V (m := j) (V := bsh T) c36).mpr ((bsh_k c36).mpr hcc)⟩ (fun x y u => mo_out hj u)
      have es : (pl (shf T) me 8).2 i = s := e.trans (nzs_e hs).symm
      exact ⟨j, hj, by rw [es]; exact hs⟩
    · obtain ⟨T', a1, a2, a3, a4, a5⟩ := kf.1 k (by omega)
      refine ⟨T', a1, a2, a3, a4, fun i hi => ?_⟩
      rw [if_neg q] at hi
      have := hc k (by omega)
      rw [if_neg (by omega)]
      exact a5 i hi
  · dsimp only at hi hi' e
    by_cases q : k = kN
    · by_cases q' : k' = kN
      · subst q
        subst q'
        rw [if_pos rfl] at hi hi'
        rw [if_pos (by omega), if_pos (by omega), show 8 * k' + i - 8 * k' = i by omega, show 8 * k' + i' - 8 * k' = i' by omega] at e
        refine ⟨rfl, ?_⟩
        rcases Nat.lt_trichotomy i i' with u | u | u
        · exact absurd e (pl_d 8 i i' u hi')
        · exact u
        · exact absurd e.symm (pl_d 8 i' i u hi)
      · subst q
        rw [if_pos rfl] at hi
        rw [if_neg q'] at hi'
        have := hc k' (by omega)
        rw [if_pos (by omega), if_neg (by omega), show 8 * k + i - 8 * k = i by omega] at e
        exact absurd e.symm (cross k' i' i (by omega) hi' hi)
    · by_cases q' : k' = kN
      · subst q'
        rw [if_neg q] at hi
        rw [if_pos rfl] at hi'
        have := hc k (by omega)
        rw [if_neg (by omega), if_pos (by omega), show 8 * k' + i' - 8 * k' = i' by omega] at e
        exact absurd e (cross k i i' (by omega) hi hi')
      · rw [if_neg q] at hi
        rw [if_neg q'] at hi'
        have h1 := hc k (by omega)
        have h2 := hc k' (by omega)
        rw [if_neg (by omega), if_neg (by omega)] at e
        exact kf.2 k k' i i' (by omega) (by omega) hi hi' e
end SHN
