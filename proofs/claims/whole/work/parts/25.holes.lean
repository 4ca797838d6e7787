/-! ===== holes of the reference ===== -/
theorem bi_a {a b : Bool} : bi a &&& bi b = bi (a && b) := by cases a <;> cases b <;> decide +kernel
theorem bs_rim {w h : Nat} {r : Bool} {a : Nat} (hw : 1 ≤ w) (hh : 1 ≤ h) (h1 : a % 8 < w) (h2 : a / 8 < h) : (∀ k, k < 4 → bs w h r a k ≠ none) ↔ rim w h r a = false := by
  have k0 : bs w h r a 0 ≠ none ↔ (a % 8 + 1 < w ∨ r = true) := by
    show (if a % 8 + 1 < w then some (a + 1) else if r = true then some (a - (w - 1)) else none) ≠ none ↔ _
    by_cases q : a % 8 + 1 < w
    · rw [if_pos q]; simp [q]
    · rw [if_neg q]
      by_cases q2 : r = true
      · rw [if_pos q2]; simp [q2]
      · rw [if_neg q2]; simp [q, q2]
  have k1 : bs w h r a 1 ≠ none ↔ (0 < a % 8 ∨ r = true) := by
    show (if 0 < a % 8 then some (a - 1) else if r = true then some (a + (w - 1)) else none) ≠ none ↔ _
    by_cases q : 0 < a % 8
    · rw [if_pos q]; simp [q]
    · rw [if_neg q]
      by_cases q2 : r = true
      · rw [if_pos q2]; simp [q2]
      · rw [if_neg q2]; simp only [ne_eq, not_true_eq_false, false_iff]; exact fun u => u.elim q q2
  have k2 : bs w h r a 2 ≠ none ↔ a / 8 + 1 < h := by
    show (if a / 8 + 1 < h then some (a + 8) else none) ≠ none ↔ _
    by_cases q : a / 8 + 1 < h
    · rw [if_pos q]; simp [q]
    · rw [if_neg q]; simp [q]
  have k3 : bs w h r a 3 ≠ none ↔ 0 < a / 8 := by
    show (if 0 < a / 8 then some (a - 8) else none) ≠ none ↔ _
    by_cases q : 0 < a / 8
    · rw [if_pos q]; simp only [ne_eq, reduceCtorEq, not_false_eq_true, true_iff]; exact q
    · rw [if_neg q]; simp only [ne_eq, not_true_eq_false, false_iff]; exact q
  have e : (∀ k, k < 4 → bs w h r a k ≠ none) ↔ (bs w h r a 0 ≠ none ∧ bs w h r a 1 ≠ none ∧ bs w h r a 2 ≠ none ∧ bs w h r a 3 ≠ none) := by
    constructor
    · intro q; exact ⟨q 0 (by omega), q 1 (by omega), q 2 (by omega), q 3 (by omega)⟩
    · rintro ⟨a0, a1, a2, a3⟩ k hk
      have : k = 0 ∨ k = 1 ∨ k = 2 ∨ k = 3 := by omega
      rcases this with rfl | rfl | rfl | rfl
      · exact a0
      · exact a1
      · exact a2
      · exact a3
  rw [e, k0, k1, k2, k3]
  have q : rim w h r a = false ↔ (¬ a / 8 = 0 ∧ ¬ a / 8 = h - 1 ∧ (r = false → ¬ a % 8 = 0 ∧ ¬ a % 8 = w - 1)) := by
    unfold rim
    cases r <;> simp [and_assoc]
  rw [q]
  cases r
  · simp only [Bool.false_eq_true, or_false, true_implies]
    omega
  · simp only [or_true, Bool.true_eq_false, false_implies, and_true, true_and]
    omega
section HOLES
variable {w h : Nat} {r : Bool} {S s0 : Nat → Bool} {z : tq_S} {Q : tq_O → tq_S → Prop} {c : Nat}
theorem mi_re (hd : jd w h r S) : cv_re w h (mi w h S) := fun j hj => by
  unfold mi at hj
  simp only [Bool.and_eq_true] at hj
  exact re_re hd.2.2.2.1 j hj.1
theorem re_t {j : Nat} (h1 : j % 8 < w) (h2 : j / 8 < h) : re_S w h j = true := by
  unfold re_S; rw [decide_eq_true h1, decide_eq_true h2]; rfl
theorem sr_hgroup (hd : jd w h r S) (hj : jr w h r S z) (hc : mi w h S c = true) (h0 : ∀ j, rc (nb w r) (mi w h S) c j → s0 j = false) (hb : bq (nb w r) (mi w h S) s0 c 1 (sn_a s0 c) (fun _ => c) z) (k : ∀ (sn : Nat → Bool) (is : Bool) z', fr [(2, 61), (2, 62), (0, 3282)] z z' → (∀ j, j < 64 → tq_ai z' 61 j = bi (sn j)) → (∀ j, j < 64 → (sn j = true ↔ s0 j = true ∨ rc (nb w r) (mi w h S) c j)) → (is = true ↔ ∀ j, rc (nb w r) (mi w h S) c j → rim w h r j = false) → Q (.inl (some (.int (bi is)))) z') : wc_X12_isWithin_14 Q (1 : Int32) (0 : Int32) z := by
  have hre := mi_re hd
  unfold wc_X12_isWithin_14
  refine lp_inv (fun q s => ∃ n sn g z' is, s = (bi is, nI q, z') ∧ fr [(2, 61), (2, 62), (0, 3282)] z z' ∧ bq (nb w r) (mi w h S) s0 c n sn g z' ∧ q ≤ n ∧ (∀ i, i < q → ∀ b, mi w h S b = true → nb w r (g i) b = true → sn b = true) ∧ (is = true ↔ ∀ i, i < q → ∀ k, k < 4 → bs w h r (g i) k ≠ none)) 64 ?_ ⟨1, _, _, z, true, rfl, fr_r, hb, by omega, fun i hi => by omega, ⟨fun _ i hi => by omega, fun _ => rfl⟩⟩
  rintro q s hq ⟨n, sn, g, z1, is, rfl, f1, b1, qn, p1, i1⟩ B hB
  simp only
  have n64 := bq_n b1
  unfold wb_X12_isWithin_14
  rw [b1.1]
  refine ⟨fun h1 => ⟨bi_z, ?_⟩, fun h1 => ?_⟩
  · rw [i_le (by omega) (by omega)] at h1
    have : q = n := by omega
    subst this
    have e := bq_e (fun j hj => (hre j hj).1) hc h0 b1 p1
    refine k sn is z1 f1 b1.2.1 e.1 (i1.trans ⟨fun u j hjr => ?_, fun u i hi => ?_⟩)
    · obtain ⟨i, hi, e2⟩ := e.2 j hjr
      have gS := hre j (rc_w hc hjr)
      rw [← bs_rim hd.1 hd.2.2.1 gS.2.1 gS.2.2, ← e2]
      exact u i hi
    · have gq := b1.2.2.2.2.1 i hi
      have gS := hre (g i) (rc_w hc gq.2.1)
      exact (bs_rim hd.1 hd.2.2.1 gS.2.1 gS.2.2).mpr (u (g i) gq.2.1)
  · rw [i_le (by omega) (by omega)] at h1
    unfold wc_X12_isWithin_25
    refine lp_inv (fun kk s => ∃ n sn g z' is, s = (bi is, nI kk, z') ∧ fr [(2, 61), (2, 62), (0, 3282)] z z' ∧ bq (nb w r) (mi w h S) s0 c n sn g z' ∧ q < n ∧ (∀ i, i < q → ∀ b, mi w h S b = true → nb w r (g i) b = true → sn b = true) ∧ (∀ k', k' < kk → ∀ b, bs w h r (g q) k' = some b → mi w h S b = true → sn b = true) ∧ (is = true ↔ (∀ i, i < q → ∀ k, k < 4 → bs w h r (g i) k ≠ none) ∧ ∀ k', k' < kk → bs w h r (g q) k' ≠ none)) 4 ?_ ⟨n, sn, g, z1, is, rfl, f1, b1, by omega, p1, fun k' hk => by omega, ⟨fun u => ⟨i1.mp u, fun k' hk => by omega⟩, fun u => i1.mpr u.1⟩⟩
    rintro kk s hkk ⟨n, sn, g, z2, is, rfl, f2, b2, qn2, p2, p3, i2⟩ B' hB'
    simp only
    have n64 := bq_n b2
    have j2 := jr_f f2 (by decide) (by decide) (by decide) (by decide) hj
    have gq := b2.2.2.2.2.1 q qn2
    have gS := hre (g q) (rc_w hc gq.2.1)
    unfold wb_X12_isWithin_25
    rw [i_4]
    refine ⟨fun h2 => ?_, fun h2 => ?_⟩
    · rw [i_le (by omega) (by omega)] at h2
      have : kk = 4 := by omega
      subst this
      unfold wc_X12_isWithin_97
      intro v e
      rw [i_1, i_add] at e
      subst e
      refine hB (by omega) _ ⟨n, sn, g, z2, is, rfl, f2, b2, by omega, fun i hi => ?_, i2.trans ⟨fun u i hi => ?_, fun u => ⟨fun i hi => u i (by omega), u q (by omega)⟩⟩⟩
      · by_cases e : i = q
        · subst e
          exact bq_k hd.2.1 hd.2.2.2.1 gS.2.1 gS.2.2 hre p3
        · exact p2 i (by omega)
      · by_cases e : i = q
        · subst e; exact u.2
        · exact u.1 i (by omega)
    · rw [i_le (by omega) (by omega)] at h2
      rw [i_cl (by omega), b2.2.2.1 q qn2]
      refine ⟨i_in (by omega) (by omega), ?_⟩
      refine sq_rbes hd j2 gS.2.1 gS.2.2 (by omega) ⟨_, rfl, ?_⟩
      have bsin : ∀ x, bs w h r (g q) kk = some x → x < 64 ∧ x % 8 < w ∧ x / 8 < h := fun x e => bs_in hd.2.1 hd.2.2.2.1 gS.2.1 gS.2.2 e
      have go : ∀ n' sn' g' z3 is', fr [(2, 61), (2, 62), (0, 3282)] z z3 → bq (nb w r) (mi w h S) s0 c n' sn' g' z3 → n ≤ n' → (∀ i, i < n → g' i = g i) → (∀ j, sn j = true → sn' j = true) → (∀ b, bs w h r (g q) kk = some b → mi w h S b = true → sn' b = true) → (is' = true ↔ is = true ∧ bs w h r (g q) kk ≠ none) → wc_X12_isWithin_91 (fun b2 b3 z => B (b2, b3, z)) (fun b2 b4 z => B' (b2, b4, z)) Q (bi is') (nI q) (nI kk) z3 := by
        intro n' sn' g' z3 is' f3 b3 hn' hg' hsn' hb' hi'
        unfold wc_X12_isWithin_91
        intro v e
        rw [i_1, i_add] at e
        subst e
        refine hB' (by omega) _ ⟨n', sn', g', z3, is', rfl, f3, b3, by omega, fun i hi b hb hab => hsn' b (p2 i hi b hb (by rw [← hg' i (by omega)]; exact hab)), fun k' hk' b e hb => ?_, ?_⟩
        · rw [hg' q (by omega)] at e
          by_cases q2 : k' = kk
          · subst q2; exact hb' b e hb
          · exact hsn' b (p3 k' (by omega) b e hb)
        · rw [hi', i2]
          constructor
          · rintro ⟨⟨u1, u2⟩, u3⟩
            refine ⟨fun i hi => by rw [hg' i (by omega)]; exact u1 i hi, fun k' hk' => ?_⟩
            rw [hg' q (by omega)]
            by_cases q2 : k' = kk
            · subst q2; exact u3
            · exact u2 k' (by omega)
          · rintro ⟨u1, u2⟩
            refine ⟨⟨fun i hi => by rw [← hg' i (by omega)]; exact u1 i hi, fun k' hk' => ?_⟩, ?_⟩
            · rw [← hg' q (by omega)]; exact u2 k' (by omega)
            · rw [← hg' q (by omega)]; exact u2 kk (by omega)
      refine ⟨fun h3 => ?_, fun h3 => ?_⟩
      · rw [bo_n (fun x e => (bsin x e).1)] at h3
        unfold wc_X12_isWithin_57
        intro v e
        have e1 : v = bi false := by rw [e, show (0 : Int32) = bi false from rfl, bi_a, Bool.and_false]
        rw [e1]
        refine ⟨fun _ => ?_, fun h4 => absurd ((bo_n (fun x e => (bsin x e).1)).mpr h3) h4⟩
        exact go n sn g z2 false f2 b2 (Nat.le_refl _) (fun _ _ => rfl) (fun _ e => e) (fun b e => by rw [h3] at e; cases e) ⟨fun u => (by cases u), fun u => absurd h3 u.2⟩
      · cases ho : bs w h r (g q) kk with
        | none => rw [ho] at h3; exact absurd rfl h3
        | some o =>
          have o64 := (bsin o ho).1
          have hin := bsin o ho
          unfold wc_X12_isWithin_57
          intro v e
          have e1 : v = bi is := by rw [e, show (1 : Int32) = bi true from rfl, bi_a, Bool.and_true]
          rw [e1]
          have i3 : is = true ↔ is = true ∧ bs w h r (g q) kk ≠ none := ⟨fun u => ⟨u, by rw [ho]; exact fun e => by cases e⟩, fun u => u.1⟩
          refine ⟨fun h4 => ?_, fun _ => ?_⟩
          · rw [ho] at h3; exact absurd h4 h3
          · rw [show bo (some o) = nI o from rfl, i_cl (by omega), j2.2 o o64, b2.2.1 o o64]
            have hmo : mi w h S o = !S o := by unfold mi; rw [re_t hin.2.1 hin.2.2]; rfl
            have stay : (S o = false → sn o = true) → wc_X12_isWithin_91 (fun b2 b3 z => B (b2, b3, z)) (fun b2 b4 z => B' (b2, b4, z)) Q (bi is) (nI q) (nI kk) z2 := fun q3 => go n sn g z2 is f2 b2 (Nat.le_refl _) (fun _ _ => rfl) (fun _ e => e) (fun b e hm => by
              rw [ho] at e; cases e
              rw [hmo] at hm
              exact q3 (by simpa using hm)) i3
            refine ⟨i_in (by omega) (by omega), fun h4 => stay (fun q3 => ?_), fun h4 => ⟨i_in (by omega) (by omega), fun h5 => stay (fun _ => bi_n.mp h5), fun h5 => ?_⟩⟩
            · rw [bi_n] at h4; rw [h4] at q3; cases q3
            · rw [bi_0] at h4 h5
              have hm : mi w h S o = true := by rw [hmo, h4]; rfl
              have hab : nb w r (g q) o = true := (bs_nb hd.2.1 hd.2.2.2.1 gS.2.1 gS.2.2 hin.2.1 hin.2.2).mp ⟨kk, by omega, ho⟩
              refine bq_1 b2 o64 h5 (rc_n gq.2.1 hab hm) (fun z3 f3 b3 => ⟨rfl, ?_⟩)
              refine go (n + 1) _ _ z3 is (fr_t f2 f3) b3 (by omega) (fun i hi => if_neg (by omega)) (fun j e => bq_le e) (fun b e _ => ?_) i3
              rw [ho] at e
              cases e
              unfold sn_a; rw [if_pos rfl]
/-- no group begins between b and b', if no cell lies there -/
theorem gr_gap {W M : Nat → Bool} {b b' : Nat} (h1 : b ≤ b') (h2 : ∀ j, b ≤ j → j < b' → W j = false) : fb_ct (rc_k (nb w r) W M) b' = fb_ct (rc_k (nb w r) W M) b := by
  obtain ⟨n, rfl⟩ : ∃ n, b' = b + n := ⟨b' - b, by omega⟩
  rw [fb_ct_split]
  have : fb_ct (fun k => rc_k (nb w r) W M (b + k)) n = 0 := by
    rw [fb_ct_zero]
    intro k hk
    rw [rc_kf]
    intro q
    have := q.1
    rw [h2 (b + k) (by omega) (by omega)] at this
    cases this
  rw [this, Nat.add_zero]
theorem sr_holesOf (hd : jd w h r S) (hj : jr w h r S z) (k : ∀ z', fr [(2, 61), (2, 62), (0, 3282)] z z' → Q (.inl (some (.int (nI (gr_n w r (mi w h S) (rim w h r)))))) z') : wm_X12_holesOf z Q := by
  have hre := mi_re hd
  have hw8 := hd.2.1
  have hh8 := hd.2.2.2.1
  unfold wm_X12_holesOf
  refine sq_noneSeen (fun z0 f0 s0 => ⟨rfl, ?_⟩)
  unfold wc_X12_holesOf_8
  refine lp_inv (fun y s => ∃ sn z', s = (nI (fb_ct (rc_k (nb w r) (mi w h S) (rim w h r)) (8 * y)), nI y, z') ∧ fr [(2, 61), (2, 62), (0, 3282)] z z' ∧ (∀ j, j < 64 → tq_ai z' 61 j = bi (sn j)) ∧ ∀ j, j < 64 → (sn j = true ↔ mi w h S j = true ∧ ∃ i, rc (nb w r) (mi w h S) j i ∧ i < 8 * y)) h ?_ ⟨fun _ => false, z0, rfl, fr_m (by decide) f0, s0, fun j _ => ⟨fun e => (by cases e), fun e => by obtain ⟨_, i, _, hi⟩ := e; omega⟩⟩
  rintro y s hy ⟨sn, z1, rfl, f1, e1, e2⟩ B hB
  simp only
  have j1 := jr_f f1 (by decide) (by decide) (by decide) (by decide) hj
  unfold wb_X12_holesOf_8
  rw [j1.1.2.1]
  refine ⟨fun h1 => ?_, fun h1 => ?_⟩
  · rw [i_le (by omega) (by omega)] at h1
    have : y = h := by omega
    subst this
    have e : fb_ct (rc_k (nb w r) (mi w y S) (rim w y r)) (8 * y) = gr_n w r (mi w y S) (rim w y r) := by
      unfold gr_n
      refine (gr_gap (by omega) (fun j hj _ => ?_)).symm
      cases hc : mi w y S j
      · rfl
      · have := hre j hc; omega
    rw [e]; exact k z1 f1
  · rw [i_le (by omega) (by omega)] at h1
    have hB := hB (by omega)
    unfold wc_X12_holesOf_18
    refine lp_inv (fun x s => ∃ sn z', s = (nI (fb_ct (rc_k (nb w r) (mi w h S) (rim w h r)) (8 * y + x)), nI x, z') ∧ fr [(2, 61), (2, 62), (0, 3282)] z z' ∧ (∀ j, j < 64 → tq_ai z' 61 j = bi (sn j)) ∧ ∀ j, j < 64 → (sn j = true ↔ mi w h S j = true ∧ ∃ i, rc (nb w r) (mi w h S) j i ∧ i < 8 * y + x)) w ?_ ⟨sn, z1, rfl, f1, e1, e2⟩
    rintro x s hx ⟨sn, z2, rfl, f2, e3, e4⟩ B' hB'
    simp only
    have j2 := jr_f f2 (by decide) (by decide) (by decide) (by decide) hj
    unfold wb_X12_holesOf_18
    rw [j2.1.1]
    refine ⟨fun h2 => ?_, fun h2 => ?_⟩
    · rw [i_le (by omega) (by omega)] at h2
      have hxw : x = w := by omega
      subst hxw
      have gap : ∀ j, 8 * y + x ≤ j → j < 8 * (y + 1) → mi x h S j = false := fun j a b => by
        cases hc : mi x h S j
        · rfl
        · have := hre j hc; omega
      unfold wc_X12_holesOf_77
      intro v e
      rw [i_1, i_add] at e
      subst e
      rw [← gr_gap (w := x) (r := r) (W := mi x h S) (M := rim x h r) (show 8 * y + x ≤ 8 * (y + 1) by omega) gap]
      refine hB _ ⟨sn, z2, rfl, f2, e3, fun j hj => ?_⟩
      rw [e4 j hj]
      constructor
      · rintro ⟨a, i, b, d⟩; exact ⟨a, i, b, by omega⟩
      · rintro ⟨a, i, b, d⟩
        refine ⟨a, i, b, ?_⟩
        have hm := rc_w a b
        refine Classical.byContradiction fun hn => ?_
        rw [gap i (by omega) d] at hm; cases hm
    · rw [i_le (by omega) (by omega)] at h2
      have hB' := hB' (by omega)
      intro v1 q1
      rw [i_8, pk_mul, i_add] at q1
      subst q1
      have e5 : 8 * y + (x + 1) = (8 * y + x) + 1 := rfl
      rw [e5, fb_ct_succ] at hB'
      have cm : mi w h S (8 * y + x) = !S (8 * y + x) := by unfold mi; rw [re_t (by omega) (by omega)]; rfl
      have same : rc_k (nb w r) (mi w h S) (rim w h r) (8 * y + x) = false → (∀ j, j < 64 → mi w h S j = true → rc (nb w r) (mi w h S) j (8 * y + x) → ∃ i, rc (nb w r) (mi w h S) j i ∧ i < 8 * y + x) → wc_X12_holesOf_71 (fun b1 b2 z => B (b1, b2, z)) (fun b1 b3 z => B' (b1, b3, z)) Q (nI (fb_ct (rc_k (nb w r) (mi w h S) (rim w h r)) (8 * y + x))) (nI y) (nI x) z2 := by
        intro hk hrc
        rw [hk] at hB'
        unfold wc_X12_holesOf_71
        intro v e
        rw [i_1, i_add] at e
        subst e
        refine hB' _ ⟨sn, z2, rfl, f2, e3, fun j hj => ?_⟩
        rw [e4 j hj]
        constructor
        · rintro ⟨a, i, b, d⟩; exact ⟨a, i, b, by omega⟩
        · rintro ⟨a, i, b, d⟩
          by_cases q : i = 8 * y + x
          · subst q
            exact ⟨a, hrc j hj a b⟩
          · exact ⟨a, i, b, by omega⟩
      rw [i_cl (by omega), j2.2 _ (by omega), e3 _ (by omega)]
      refine ⟨i_in (by omega) (by omega), fun h3 => ?_, fun h3 => ⟨i_in (by omega) (by omega), fun h4 => ?_, fun h4 => ?_⟩⟩
      · rw [bi_n] at h3
        rw [h3] at cm
        have cm : mi w h S (8 * y + x) = false := cm
        refine same (rc_kf.mpr (fun q => by have q1 := q.1; rw [cm] at q1; cases q1)) (fun j hj hs hr => ?_)
        rw [rc_w hs hr] at cm; cases cm
      · rw [bi_n, e4 _ (by omega)] at h4
        obtain ⟨hs, i, hr, hi⟩ := h4
        refine same (rc_kf.mpr (fun q => ?_)) (fun j hj hs2 hr2 => ⟨i, rc_t hr2 hr, hi⟩)
        have := q.2.1 i hr
        omega
      · rw [bi_0] at h3 h4
        rw [h3] at cm
        have cm : mi w h S (8 * y + x) = true := cm
        have lead : ∀ i, rc (nb w r) (mi w h S) (8 * y + x) i → 8 * y + x ≤ i := by
          intro i hi
          refine Classical.byContradiction fun hn => ?_
          have := (e4 _ (by omega)).mpr ⟨cm, i, hi, by omega⟩
          rw [h4] at this; cases this
        unfold wm_X12_isWithin
        intro z3 q3
        have f3 : fr [(2, 61), (2, 62), (0, 3282)] z2 z3 := by rw [q3]; exact fr_sfi (by decide) fr_r
        have e3' : ∀ j, j < 64 → tq_ai z3 61 j = bi (sn j) := fun j hj => by rw [q3]; exact e3 j hj
        refine bq_0 (N := nb w r) (W := mi w h S) (by omega) h4 e3' (by rw [q3]; rfl) (fun z4 f4 b4 => ⟨rfl, ?_⟩)
        have f24 : fr [(2, 61), (2, 62), (0, 3282)] z z4 := fr_t f2 (fr_t f3 f4)
        have j4 := jr_f f24 (by decide) (by decide) (by decide) (by decide) hj
        refine sr_hgroup hd j4 cm (fun j hjr => ?_) b4 (fun sn' is z5 f5 e6 e7 i5 => ⟨_, rfl, ?_⟩)
        · cases hc : sn j
          · rfl
          · have hj64 := (hre j (rc_w cm hjr)).1
            obtain ⟨_, i, hi, hlt⟩ := (e4 j hj64).mp hc
            have := lead i (rc_t hjr hi)
            omega
        · have hk : rc_k (nb w r) (mi w h S) (rim w h r) (8 * y + x) = is := by
            cases is
            · rw [rc_kf]
              intro q
              have := i5.mpr q.2.2
              cases this
            · rw [rc_kt]
              exact ⟨cm, lead, i5.mp rfl⟩
          rw [hk] at hB'
          have fin : ∀ n, n = fb_ct (rc_k (nb w r) (mi w h S) (rim w h r)) (8 * y + x) + (if is = true then 1 else 0) → wc_X12_holesOf_71 (fun b1 b2 z => B (b1, b2, z)) (fun b1 b3 z => B' (b1, b3, z)) Q (nI n) (nI y) (nI x) z5 := by
            intro n hn
            unfold wc_X12_holesOf_71
            intro v e
            rw [i_1, i_add] at e
            subst e
            rw [hn]
            refine hB' _ ⟨sn', z5, rfl, fr_t f24 f5, e6, fun j hj => ?_⟩
            rw [e7 j hj, e4 j hj]
            constructor
            · rintro (⟨a, i, b, d⟩ | q)
              · exact ⟨a, i, b, by omega⟩
              · exact ⟨rc_w cm q, _, rc_s gr_sy cm q, by omega⟩
            · rintro ⟨a, i, b, d⟩
              by_cases q : i = 8 * y + x
              · subst q
                exact Or.inr (rc_s gr_sy a b)
              · exact Or.inl ⟨a, i, b, by omega⟩
          unfold wc_X12_holesOf_69
          refine ⟨fun h5 v e => ?_, fun h5 v e => ?_⟩
          · rw [bi_0] at h5
            rw [i_0, i_add] at e
            subst e
            exact fin _ (by rw [h5]; rfl)
          · rw [bi_n] at h5
            rw [i_1, i_add] at e
            subst e
            exact fin _ (by rw [h5]; rfl)
/-- parts, holes: the two answers -/
theorem sr_parts (hd : jd w h r S) (hj : jr w h r S z) (k : ∀ z', fr [(0, 3264), (2, 61), (2, 62), (0, 3282)] z z' → Q (.inl (some (.int (nI (gr_n w r S (fun _ => false)))))) z') : wm_X12_parts z Q := by
  unfold wm_X12_parts
  intro z1 e1
  have f1 : fr [(0, 3264)] z z1 := by rw [e1]; exact fr_sfi (by decide) fr_r
  have j1 := jr_f f1 (by decide) (by decide) (by decide) (by decide) hj
  exact sr_partsOf hd j1 (fun z2 f2 => ⟨_, rfl, k z2 (fr_t (fr_m (by decide) f1) (fr_m (by decide) f2))⟩)
theorem sr_holes (hd : jd w h r S) (hj : jr w h r S z) (k : ∀ z', fr [(0, 3264), (2, 61), (2, 62), (0, 3282)] z z' → Q (.inl (some (.int (nI (gr_n w r (mi w h S) (rim w h r)))))) z') : wm_X12_holes z Q := by
  unfold wm_X12_holes
  intro z1 e1
  have f1 : fr [(0, 3264)] z z1 := by rw [e1]; exact fr_sfi (by decide) fr_r
  have j1 := jr_f f1 (by decide) (by decide) (by decide) (by decide) hj
  exact sr_holesOf hd j1 (fun z2 f2 => ⟨_, rfl, k z2 (fr_t (fr_m (by decide) f1) (fr_m (by decide) f2))⟩)
end HOLES
