/-! ===== the reference: cuts, what is kept, what can be undone ===== -/
section RCUT
variable {w h : Nat} {r : Bool} {S : Nat → Bool} {z : tq_S} {Q : tq_O → tq_S → Prop} {p : Nat → Nat}
theorem sq_rcuts (hd : jd w h r S) (hj : jr w h r S z) (ht : rto w r S (fun _ => false) p (tq_ai z 56)) (k : Q (.inl (some (.int (nI (cutn w h r S p))))) z) : wm_X12_cutsOf z Q := by
  have hw8 := hd.2.1
  have hw1 := hd.1
  have hh8 := hd.2.2.2.1
  have hh1 := hd.2.2.1
  have rd101 : ∀ j, j < 64 → S j = true → (tq_ai z 56 j = (101 : Int32) ↔ Rp w r p j = true) := fun j hj hs => by
    have := tc_lt (w := w) (r := r) (p := p) (j := j)
    rw [rto_at ht hj hs, show (101 : Int32) = nI 101 from rfl, i_eq (by omega) (by omega)]; exact tc_101
  have rd115 : ∀ j, j < 64 → S j = true → (tq_ai z 56 j = (115 : Int32) ↔ Dp p j = true) := fun j hj hs => by
    have := tc_lt (w := w) (r := r) (p := p) (j := j)
    rw [rto_at ht hj hs, show (115 : Int32) = nI 115 from rfl, i_eq (by omega) (by omega)]; exact tc_115 hw1
  obtain ⟨n, hn⟩ : ∃ n, n = (if r = true then w else w - 1) := ⟨_, rfl⟩
  have nw : n ≤ w := by rw [hn]; split <;> omega
  rw [show cutn w h r S p = fb_ct (vcut w h r S p) n + fb_ct (hcut w S p) (h - 1) by unfold cutn; rw [hn]] at k
  -- the rows
  have rows : wc_X12_cutsOf_107 Q (nI (fb_ct (vcut w h r S p) n)) z := by
    have bn := fb_ct_le (vcut w h r S p) n
    unfold wc_X12_cutsOf_107 wc_X12_cutsOf_109
    refine lp_for (fun y => (nI (fb_ct (vcut w h r S p) n + fb_ct (hcut w S p) y), nI y, z)) (h - 1) ?_ rfl
    intro y hy B hB
    have by1 := fb_ct_le (hcut w S p) y
    simp only
    unfold wb_X12_cutsOf_109
    rw [hj.1.2.1, i_1, i_add]
    refine ⟨fun h1 => ?_, fun h1 => ?_⟩
    · rw [i_le (by omega) (by omega)] at h1
      have : y = h - 1 := by omega
      subst this; exact k
    · rw [i_le (by omega) (by omega)] at h1
      have hB := hB (by omega)
      rw [fb_ct_succ, ← Nat.add_assoc] at hB
      unfold wc_X12_cutsOf_124
      refine lp_inv (fun x s => ∃ is : Bool, s = (bi is, nI x, z) ∧ (is = true ↔ ∀ x', x' < x → (S (8 * y + x') && Dp p (8 * y + x')) = false)) w ?_ ⟨true, rfl, ⟨fun _ x' hx' => by omega, fun _ => rfl⟩⟩
      rintro x s hx ⟨is, rfl, his⟩ B' hB'
      simp only
      unfold wb_X12_cutsOf_124
      rw [hj.1.1]
      refine ⟨fun h2 => ?_, fun h2 => ?_⟩
      · rw [i_le (by omega) (by omega)] at h2
        have : x = w := by omega
        subst this
        have ev : hcut x S p y = is := by
          unfold hcut
          cases is
          · rw [decide_eq_false]
            intro u
            have := his.mpr u
            cases this
          · rw [decide_eq_true]
            exact his.mp rfl
        rw [ev] at hB
        unfold wc_X12_cutsOf_179
        refine ⟨fun q => ?_, fun q => ?_⟩
        · rw [bi_0] at q
          rw [q] at hB
          unfold wc_X12_cutsOf_189
          intro v1 e1 v2 e2
          rw [i_0, i_add] at e1
          rw [i_1, i_add] at e2
          rw [e1, e2]; exact hB
        · rw [bi_n] at q
          rw [q] at hB
          unfold wc_X12_cutsOf_189
          intro v1 e1 v2 e2
          rw [i_1, i_add] at e1 e2
          rw [e1, e2]; exact hB
      · rw [i_le (by omega) (by omega)] at h2
        have nx : ∀ is' : Bool, (is' = true ↔ is = true ∧ (S (8 * y + x) && Dp p (8 * y + x)) = false) → B' (bi is', nI (x + 1), z) := by
          intro is' hi
          refine hB' (by omega) _ ⟨is', rfl, ?_⟩
          rw [hi, his]
          constructor
          · rintro ⟨a, b⟩ x' hx'
            by_cases q : x' = x
            · subst q; exact b
            · exact a x' (by omega)
          · intro a
            exact ⟨fun x' hx' => a x' (by omega), a x (by omega)⟩
        have one : (S (8 * y + x) && Dp p (8 * y + x)) = false → wc_X12_cutsOf_166 (fun b1 b2 z => B (b1, b2, z)) (fun b3 b4 z => B' (b3, b4, z)) Q (nI (fb_ct (vcut w h r S p) n + fb_ct (hcut w S p) y)) (nI y) (nI x) (bi is) z := by
          intro q
          unfold wc_X12_cutsOf_166 wc_X12_cutsOf_171
          intro v1 e1 v2 e2
          rw [show (1 : Int32) = bi true from rfl, bi_a, Bool.and_true] at e1
          rw [i_1, i_add] at e2
          rw [e1, e2]
          exact nx is ⟨fun u => ⟨u, q⟩, fun u => u.1⟩
        rw [i_8, pk_mul, i_add, i_cl (by omega), hj.2 _ (by omega)]
        refine ⟨i_in (by omega) (by omega), fun q => one ?_, fun q => ⟨i_in (by omega) (by omega), fun q2 => ?_, fun q2 => one ?_⟩⟩
        · rw [bi_0] at q; rw [q]; rfl
        · rw [bi_n] at q
          rw [rd115 _ (by omega) q] at q2
          unfold wc_X12_cutsOf_171
          intro v1 e1 v2 e2
          rw [show (0 : Int32) = bi false from rfl, bi_a, Bool.and_false] at e1
          rw [i_1, i_add] at e2
          rw [e1, e2]
          exact nx false ⟨fun u => (by cases u), fun u => by rw [q, q2] at u; cases u.2⟩
        · rw [bi_n] at q
          rw [rd115 _ (by omega) q, Bool.not_eq_true] at q2
          rw [q2]; simp
  unfold wm_X12_cutsOf wc_X12_cutsOf_4
  refine lp_for (fun x => (nI (fb_ct (vcut w h r S p) x), nI x, z)) n ?_ rfl
  intro x hx B hB
  have bx1 := fb_ct_le (vcut w h r S p) x
  simp only
  have col : x < n → wc_X12_cutsOf_29 (fun b1 b2 z => B (b1, b2, z)) Q (nI (fb_ct (vcut w h r S p) x)) (nI x) z := by
    intro hxn
    have hB := hB hxn
    rw [fb_ct_succ] at hB
    unfold wc_X12_cutsOf_29 wc_X12_cutsOf_34
    refine lp_inv (fun y s => ∃ is : Bool, s = (bi is, nI y, z) ∧ (is = true ↔ ∀ y', y' < y → (S (8 * y' + x) && Rp w r p (8 * y' + x)) = false)) h ?_ ⟨true, rfl, ⟨fun _ x' hx' => by omega, fun _ => rfl⟩⟩
    rintro y s hy ⟨is, rfl, his⟩ B' hB'
    simp only
    unfold wb_X12_cutsOf_34
    rw [hj.1.2.1]
    refine ⟨fun h2 => ?_, fun h2 => ?_⟩
    · rw [i_le (by omega) (by omega)] at h2
      have : y = h := by omega
      subst this
      have ev : vcut w y r S p x = is := by
        unfold vcut
        cases is
        · rw [decide_eq_false]
          intro u
          have := his.mpr u
          cases this
        · rw [decide_eq_true]
          exact his.mp rfl
      rw [ev] at hB
      unfold wc_X12_cutsOf_89
      refine ⟨fun q => ?_, fun q => ?_⟩
      · rw [bi_0] at q
        rw [q] at hB
        unfold wc_X12_cutsOf_99
        intro v1 e1 v2 e2
        rw [i_0, i_add] at e1
        rw [i_1, i_add] at e2
        rw [e1, e2]; exact hB
      · rw [bi_n] at q
        rw [q] at hB
        unfold wc_X12_cutsOf_99
        intro v1 e1 v2 e2
        rw [i_1, i_add] at e1 e2
        rw [e1, e2]; exact hB
    · rw [i_le (by omega) (by omega)] at h2
      have nx : ∀ is' : Bool, (is' = true ↔ is = true ∧ (S (8 * y + x) && Rp w r p (8 * y + x)) = false) → B' (bi is', nI (y + 1), z) := by
        intro is' hi
        refine hB' (by omega) _ ⟨is', rfl, ?_⟩
        rw [hi, his]
        constructor
        · rintro ⟨a, b⟩ x' hx'
          by_cases q : x' = y
          · subst q; exact b
          · exact a x' (by omega)
        · intro a
          exact ⟨fun x' hx' => a x' (by omega), a y (by omega)⟩
      have one : (S (8 * y + x) && Rp w r p (8 * y + x)) = false → wc_X12_cutsOf_76 (fun b1 b2 z => B (b1, b2, z)) (fun b3 b4 z => B' (b3, b4, z)) Q (nI (fb_ct (vcut w h r S p) x)) (nI x) (nI y) (bi is) z := by
        intro q
        unfold wc_X12_cutsOf_76 wc_X12_cutsOf_81
        intro v1 e1 v2 e2
        rw [show (1 : Int32) = bi true from rfl, bi_a, Bool.and_true] at e1
        rw [i_1, i_add] at e2
        rw [e1, e2]
        exact nx is ⟨fun u => ⟨u, q⟩, fun u => u.1⟩
      rw [i_8, pk_mul, i_add, i_cl (by omega), hj.2 _ (by omega)]
      refine ⟨i_in (by omega) (by omega), fun q => one ?_, fun q => ⟨i_in (by omega) (by omega), fun q2 => ?_, fun q2 => one ?_⟩⟩
      · rw [bi_0] at q; rw [q]; rfl
      · rw [bi_n] at q
        rw [rd101 _ (by omega) q] at q2
        unfold wc_X12_cutsOf_81
        intro v1 e1 v2 e2
        rw [show (0 : Int32) = bi false from rfl, bi_a, Bool.and_false] at e1
        rw [i_1, i_add] at e2
        rw [e1, e2]
        exact nx false ⟨fun u => (by cases u), fun u => by rw [q, q2] at u; cases u.2⟩
      · rw [bi_n] at q
        rw [rd101 _ (by omega) q, Bool.not_eq_true] at q2
        rw [q2]; simp
  unfold wb_X12_cutsOf_4
  rw [hj.1.1, hj.1.2.2, cr_r0, i_1, i_add, i_lt (by omega) (by omega), i_le (by omega) (by omega)]
  refine ⟨fun h1 => col ?_, fun h1 => ⟨fun h2 => ?_, fun h2 => ⟨fun h3 => ?_, fun h3 => col ?_⟩⟩⟩
  · rw [hn]; split <;> omega
  · have : x = n := by rw [h2, if_neg Bool.false_ne_true] at hn; omega
    subst this; exact rows
  · have : x = n := by
      have h2' : r = true := by simpa using h2
      rw [h2', if_pos rfl] at hn; omega
    subst this; exact rows
  · have h2' : r = true := by simpa using h2
    rw [h2', if_pos rfl] at hn; omega
theorem sq_hasNone {a : Nat} {b : Bool} (hb : tq_fi z 3272 = bi b) (k : ∀ z', fr [(0, 3264)] z z' → tq_fi z' 3264 = (if b = true then nI 0 else nI a) → Q (.inl (some (.int (bi (!b))))) z') : wm_X12_hasNone (nI a) z Q := by
  have main : ∀ c : Bool, c = !b → wc_X12_hasNone_13 Q (nI a) (bi c) z := by
    intro c hc
    unfold wc_X12_hasNone_13
    refine sq_isThrown (fun z1 f1 e1 => ⟨_, rfl, bi_z, ?_⟩)
    rw [hc] at e1 ⊢
    refine k z1 f1 ?_
    rw [e1]
    cases b <;> rfl
  unfold wm_X12_hasNone
  rw [hb]
  refine ⟨fun q => ?_, fun q => ?_⟩
  · rw [bi_n] at q
    exact main false (by rw [q]; rfl)
  · rw [bi_0] at q
    exact main true (by rw [q]; rfl)
/-! undo -/
theorem sq_keepUndo {u : Nat} {b0 : Bool} (hu : tq_fi z 3276 = nI u) (hu10 : u ≤ 10) (hb : ∀ k, k < u → ∃ b, tq_ai z 58 k = bi b) (hb0 : tq_fi z 3272 = bi b0) (k : ∀ z', fr [(2, 58), (2, 59), (0, 3276)] z z' → tq_fi z' 3276 = nI (ul u + 1) → (∀ i, i < ul u → tq_ai z' 58 i = tq_ai z 58 (us u i) ∧ ∀ j, j < 64 → ∀ c, c < 65536 → tq_ai z 59 (64 * us u i + j) = nI c → tq_ai z' 59 (64 * i + j) = nI c) → tq_ai z' 58 (ul u) = bi b0 → (∀ j, j < 64 → ∀ c, c < 65536 → tq_ai z 56 j = nI c → tq_ai z' 59 (64 * ul u + j) = nI c) → Q (.inl none) z') : wm_X12_keepUndo z Q := by
  have fin : ∀ v z1, v < 10 → v = ul u → fr [(2, 58), (2, 59), (0, 3276)] z z1 → tq_fi z1 3276 = nI v → (∀ i, i < v → tq_ai z1 58 i = tq_ai z 58 (us u i) ∧ ∀ j, j < 64 → ∀ c, c < 65536 → tq_ai z 59 (64 * us u i + j) = nI c → tq_ai z1 59 (64 * i + j) = nI c) → wc_X12_keepUndo_87 Q z1 := by
    intro v z1 hv hvu f1 p1 g1
    have c1 : tq_fi z1 3272 = bi b0 := (fr_fi f1 (by decide)).trans hb0
    unfold wc_X12_keepUndo_87
    rw [p1, c1, bi_v]
    refine ⟨i_in (by omega) (by omega), fun z2 e2 => ?_⟩
    rw [i_cl (by omega)] at e2
    have f2 : fr [(2, 58), (2, 59), (0, 3276)] z z2 := by rw [e2]; exact fr_sai (by decide) f1
    have p2 : tq_fi z2 3276 = nI v := by rw [e2]; exact p1
    have A58 : ∀ i, tq_ai z2 58 i = if i = v then bi b0 else tq_ai z1 58 i := fun i => by rw [e2, rw_aie, rw_upd]
    have A59 : tq_ai z2 59 = tq_ai z1 59 := by rw [e2]; exact rw_ain (by decide)
    unfold wc_X12_keepUndo_102
    refine lp_inv (fun m s => ∃ z', s = (nI m, z') ∧ fr [(2, 58), (2, 59), (0, 3276)] z z' ∧ tq_fi z' 3276 = nI v ∧ tq_ai z' 58 = tq_ai z2 58 ∧ ∀ i, tq_ai z' 59 i = if 64 * v ≤ i ∧ i < 64 * v + m then vp_nar .char (tq_ai z 56 (i - 64 * v)) else tq_ai z1 59 i) 64 ?_ ⟨z2, rfl, f2, p2, rfl, fun i => by rw [if_neg (by omega), A59]⟩
    rintro m s hm ⟨z3, rfl, f3, p3, g3, g4⟩ B hB
    simp only
    unfold wb_X12_keepUndo_102
    rw [i_64]
    refine ⟨fun h1 => ?_, fun h1 => ?_⟩
    · rw [i_le (by omega) (by omega)] at h1
      have : m = 64 := by omega
      subst this
      unfold wc_X12_keepUndo_134
      intro z4 e4
      rw [p3, i_1, i_add] at e4
      rw [← hvu] at k
      refine k z4 (by rw [e4]; exact fr_sfi (by decide) f3) (by rw [e4]; rfl) (fun i hi => ⟨?_, fun j hj c hc e => ?_⟩) ?_ (fun j hj c hc e => ?_)
      · rw [e4]; show tq_ai z3 58 i = _
        rw [g3, A58, if_neg (by omega)]; exact (g1 i hi).1
      · rw [e4]; show tq_ai z3 59 _ = _
        rw [g4, if_neg (by omega)]; exact (g1 i hi).2 j hj c hc e
      · rw [e4]; show tq_ai z3 58 v = _
        rw [g3, A58, if_pos rfl]
      · rw [e4]; show tq_ai z3 59 _ = _
        have e0 : 64 * v + j - 64 * v = j := by omega
        rw [g4, if_pos (by omega), e0, e, i_nc hc]
    · rw [i_le (by omega) (by omega)] at h1
      rw [p3, pk_mul, i_add]
      refine ⟨i_in (by omega) (by omega), i_in (by omega) (by omega), fun z4 e4 v4 e5 => ?_⟩
      rw [i_1, i_add] at e5
      subst e5
      rw [i_cl (by omega), i_cl (by omega), fr_ai (k := 56) f3 (by decide)] at e4
      refine hB (by omega) _ ⟨z4, rfl, by rw [e4]; exact fr_sai (by decide) f3, by rw [e4]; exact p3, by rw [e4, rw_ain (by decide)]; exact g3, fun i => ?_⟩
      rw [e4, rw_aie, rw_upd]
      by_cases q : i = 64 * v + m
      · have e0 : i - 64 * v = m := by omega
        rw [if_pos q, if_pos (by omega), e0]
      · rw [if_neg q, g4]
        by_cases q2 : 64 * v ≤ i ∧ i < 64 * v + m
        · rw [if_pos q2, if_pos (by omega)]
        · rw [if_neg q2, if_neg (by omega)]
  unfold wm_X12_keepUndo
  rw [hu, show (10 : Int32) = nI 10 from rfl, i_eq (by omega) (by omega)]
  refine ⟨fun h1 => ?_, fun h1 => ?_⟩
  · have e1 : ul u = u := if_neg h1
    refine fin u z (by omega) e1.symm fr_r hu (fun i hi => ?_)
    have : us u i = i := if_neg h1
    rw [this]; exact ⟨rfl, fun j hj c hc e => e⟩
  · subst h1
    have us10 : ∀ i, us 10 i = i + 1 := fun i => if_pos rfl
    unfold wc_X12_keepUndo_11
    refine lp_inv (fun m s => ∃ z', s = (nI m, z') ∧ fr [(2, 58), (2, 59), (0, 3276)] z z' ∧ tq_fi z' 3276 = nI 10 ∧ (∀ i, tq_ai z' 58 i = if i < m then tq_ai z 58 (i + 1) else tq_ai z 58 i) ∧ ∀ i, tq_ai z' 59 i = if i < 64 * m then vp_nar .char (tq_ai z 59 (i + 64)) else tq_ai z 59 i) 9 ?_ ⟨z, rfl, fr_r, hu, fun i => by rw [if_neg (by omega)], fun i => by rw [if_neg (by omega)]⟩
    rintro m s hm ⟨z1, rfl, f1, p1, g1, g2⟩ B hB
    simp only
    unfold wb_X12_keepUndo_11
    rw [i_1, i_add, show (10 : Int32) = nI 10 from rfl]
    refine ⟨fun h1 => ?_, fun h1 => ?_⟩
    · rw [i_le (by omega) (by omega)] at h1
      have : m = 9 := by omega
      subst this
      unfold wc_X12_keepUndo_77
      intro z2 e2
      rw [p1, i_1, pk_sub (by omega)] at e2
      refine fin 9 z2 (by omega) rfl (by rw [e2]; exact fr_sfi (by decide) f1) (by rw [e2]; rfl) (fun i hi => ⟨?_, fun j hj c hc e => ?_⟩)
      · rw [e2]; show tq_ai z1 58 i = _
        rw [g1, if_pos hi, us10]
      · rw [us10] at e
        rw [e2]; show tq_ai z1 59 _ = _
        have e0 : 64 * i + j + 64 = 64 * (i + 1) + j := by omega
        rw [g2, if_pos (by omega), e0, e, i_nc hc]
    · rw [i_le (by omega) (by omega)] at h1
      obtain ⟨bb1, hbb⟩ := hb (m + 1) (by omega)
      refine ⟨i_in (by omega) (by omega), i_in (by omega) (by omega), fun z2 e2 => ?_⟩
      have rdv : tq_ai z1 58 (m + 1) = bi bb1 := by rw [g1, if_neg (by omega)]; exact hbb
      rw [i_cl (by omega), i_cl (by omega), rdv, bi_v] at e2
      have f2 : fr [(2, 58), (2, 59), (0, 3276)] z z2 := by rw [e2]; exact fr_sai (by decide) f1
      have A58 : ∀ i, tq_ai z2 58 i = if i < m + 1 then tq_ai z 58 (i + 1) else tq_ai z 58 i := fun i => by
        rw [e2, rw_aie, rw_upd]
        by_cases q : i = m
        · rw [if_pos q, if_pos (by omega), q, hbb]
        · rw [if_neg q, g1]
          by_cases q2 : i < m
          · rw [if_pos q2, if_pos (by omega)]
          · rw [if_neg q2, if_neg (by omega)]
      have A59 : tq_ai z2 59 = tq_ai z1 59 := by rw [e2]; exact rw_ain (by decide)
      unfold wc_X12_keepUndo_35
      refine lp_inv (fun j s => ∃ z', s = (nI j, z') ∧ fr [(2, 58), (2, 59), (0, 3276)] z z' ∧ tq_fi z' 3276 = nI 10 ∧ tq_ai z' 58 = tq_ai z2 58 ∧ ∀ i, tq_ai z' 59 i = if i < 64 * m + j then vp_nar .char (tq_ai z 59 (i + 64)) else tq_ai z 59 i) 64 ?_ ⟨z2, rfl, f2, by rw [e2]; exact p1, rfl, fun i => by rw [A59, g2]; rfl⟩
      rintro j s hj ⟨z3, rfl, f3, p3, g3, g4⟩ B' hB'
      simp only
      unfold wb_X12_keepUndo_35
      rw [i_64]
      refine ⟨fun h2 => ?_, fun h2 => ?_⟩
      · rw [i_le (by omega) (by omega)] at h2
        have : j = 64 := by omega
        subst this
        unfold wc_X12_keepUndo_71
        intro v e
        rw [i_1, i_add] at e
        subst e
        refine hB (by omega) _ ⟨z3, rfl, f3, p3, fun i => by rw [g3]; exact A58 i, fun i => ?_⟩
        rw [g4]
        rfl
      · rw [i_le (by omega) (by omega)] at h2
        rw [i_1, i_add, pk_mul, pk_mul, i_add, i_add]
        refine ⟨i_in (by omega) (by omega), i_in (by omega) (by omega), fun z4 e4 v4 e5 => ?_⟩
        rw [i_add] at e5
        subst e5
        have e0 : 64 * (m + 1) + j = 64 * m + j + 64 := by omega
        rw [i_cl (by omega), i_cl (by omega), g4, if_neg (by omega), e0] at e4
        refine hB' (by omega) _ ⟨z4, rfl, by rw [e4]; exact fr_sai (by decide) f3, by rw [e4]; exact p3, by rw [e4, rw_ain (by decide)]; exact g3, fun i => ?_⟩
        rw [e4, rw_aie, rw_upd]
        by_cases q : i = 64 * m + j
        · rw [if_pos q, if_pos (by omega), q]
        · rw [if_neg q, g4]
          by_cases q2 : i < 64 * m + j
          · rw [if_pos q2, if_pos (by omega)]
          · rw [if_neg q2, if_neg (by omega)]
end RCUT
