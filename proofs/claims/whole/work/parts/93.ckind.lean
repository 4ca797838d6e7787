/-! ===== a new kind, in the class ===== -/
/-- a shape of one of the first n kinds -/
def kn (A : Nat → Int64) (C : Nat → Nat) (n : Nat) (s : Int64) : Prop := ∃ k, k < n ∧ ∃ i, i < C k ∧ A (8 * k + i) = s
/-- different shapes, one behind the other -/
noncomputable def pl (f : Nat → Int64) (me : Nat → Bool) : Nat → Nat × (Nat → Int64)
  | 0 => (0, fun _ => 0)
  | m + 1 => @ite _ (me m = true ∧ ¬ ∃ i, i < (pl f me m).1 ∧ (pl f me m).2 i = f m) (Classical.propDecidable _) ((pl f me m).1 + 1, fun i => if i = (pl f me m).1 then f m else (pl f me m).2 i) (pl f me m)
section PL
variable {f : Nat → Int64} {me : Nat → Bool} {m : Nat}
theorem pl_y (h : me m = true) (h2 : ¬ ∃ i, i < (pl f me m).1 ∧ (pl f me m).2 i = f m) : pl f me (m + 1) = ((pl f me m).1 + 1, fun i => if i = (pl f me m).1 then f m else (pl f me m).2 i) := by
  rw [pl, if_pos ⟨h, h2⟩]
theorem pl_n (h : me m = false) : pl f me (m + 1) = pl f me m := by
  rw [pl, if_neg]
  rintro ⟨a, _⟩
  rw [h] at a; cases a
theorem pl_k (h : ∃ i, i < (pl f me m).1 ∧ (pl f me m).2 i = f m) : pl f me (m + 1) = pl f me m := by
  rw [pl, if_neg]
  exact fun a => a.2 h
theorem pl_l : ∀ m, (pl f me m).1 ≤ m
  | 0 => Nat.le_refl _
  | m + 1 => by
    have := pl_l m
    by_cases c : me m = true ∧ ¬ ∃ i, i < (pl f me m).1 ∧ (pl f me m).2 i = f m
    · rw [pl_y c.1 c.2]; show (pl f me m).1 + 1 ≤ m + 1; omega
    · rw [pl, if_neg c]; omega
theorem pl_1 (h : me 0 = true) : ∀ m, 1 ≤ (pl f me (m + 1)).1
  | 0 => by
    rw [pl_y h (fun ⟨i, hi, _⟩ => absurd hi (Nat.not_lt_zero _))]
    exact Nat.le_refl _
  | m + 1 => by
    have := pl_1 h m
    by_cases c : me (m + 1) = true ∧ ¬ ∃ i, i < (pl f me (m + 1)).1 ∧ (pl f me (m + 1)).2 i = f (m + 1)
    · rw [pl_y c.1 c.2]; show 1 ≤ (pl f me (m + 1)).1 + 1; omega
    · rw [pl, if_neg c]; exact this
/-- each of them is one of f -/
theorem pl_f : ∀ m i, i < (pl f me m).1 → ∃ j, j < m ∧ me j = true ∧ (pl f me m).2 i = f j
  | 0, i, h => absurd h (Nat.not_lt_zero _)
  | m + 1, i, h => by
    by_cases c : me m = true ∧ ¬ ∃ i, i < (pl f me m).1 ∧ (pl f me m).2 i = f m
    · rw [pl_y c.1 c.2] at h ⊢
      have h : i < (pl f me m).1 + 1 := h
      show ∃ j, j < m + 1 ∧ me j = true ∧ (if i = (pl f me m).1 then f m else (pl f me m).2 i) = f j
      by_cases e : i = (pl f me m).1
      · exact ⟨m, by omega, c.1, by rw [if_pos e]⟩
      · obtain ⟨j, a, b, d⟩ := pl_f m i (by omega)
        exact ⟨j, by omega, b, by rw [if_neg e]; exact d⟩
    · rw [pl, if_neg c] at h ⊢
      obtain ⟨j, a, b, d⟩ := pl_f m i h
      exact ⟨j, by omega, b, d⟩
/-- each f that is meant is one of them -/
theorem pl_a : ∀ m j, j < m → me j = true → ∃ i, i < (pl f me m).1 ∧ (pl f me m).2 i = f j
  | 0, j, h, _ => absurd h (Nat.not_lt_zero _)
  | m + 1, j, h, hj => by
    by_cases c : me m = true ∧ ¬ ∃ i, i < (pl f me m).1 ∧ (pl f me m).2 i = f m
    · rw [pl_y c.1 c.2]
      show ∃ i, i < (pl f me m).1 + 1 ∧ (if i = (pl f me m).1 then f m else (pl f me m).2 i) = f j
      by_cases e : j = m
      · subst e; exact ⟨_, Nat.lt_succ_self _, if_pos rfl⟩
      · obtain ⟨i, a, b⟩ := pl_a m j (by omega) hj
        exact ⟨i, by omega, by rw [if_neg (by omega)]; exact b⟩
    · rw [pl, if_neg c]
      by_cases e : j = m
      · subst e
        exact Classical.byContradiction fun n => c ⟨hj, n⟩
      · exact pl_a m j (by omega) hj
/-- and no two are alike -/
theorem pl_d : ∀ m i j, i < j → j < (pl f me m).1 → (pl f me m).2 i ≠ (pl f me m).2 j
  | 0, i, j, _, h => absurd h (Nat.not_lt_zero _)
  | m + 1, i, j, hij, h => by
    by_cases c : me m = true ∧ ¬ ∃ i, i < (pl f me m).1 ∧ (pl f me m).2 i = f m
    · rw [pl_y c.1 c.2] at h ⊢
      have h : j < (pl f me m).1 + 1 := h
      show (if i = (pl f me m).1 then f m else (pl f me m).2 i) ≠ (if j = (pl f me m).1 then f m else (pl f me m).2 j)
      rw [if_neg (by omega)]
      by_cases e : j = (pl f me m).1
      · rw [if_pos e]
        exact fun u => c.2 ⟨i, by omega, u⟩
      · rw [if_neg e]
        exact pl_d m i j hij (by omega)
    · rw [pl, if_neg c] at h ⊢
      exact pl_d m i j hij h
end PL
noncomputable def nzs (V : Int → Int → Prop) : Int64 := @dite _ (∃ s, nz V s) (Classical.propDecidable _) (fun h => Classical.choose h) (fun _ => 0)
theorem nzs_e {V : Int → Int → Prop} {s : Int64} (h : nz V s) : s = nzs V := by
  have ex : ∃ s, nz V s := ⟨s, h⟩
  unfold nzs
  rw [dif_pos ex]
  exact nz_1 h (Classical.choose_spec ex)
def mean (a1 a2 : Int32) (m : Nat) : Bool := (!decide (a1 = 0) || decide (m % 4 = 0)) && (!decide (a2 = 0) || decide (m < 4))
noncomputable def shf (T : Int64) (m : Nat) : Int64 := nzs (mo m (bsh T))
/-- no new kind can be made of it -/
def kbad (A : Nat → Int64) (C : Nat → Nat) (n : Nat) (T : Int64) (me : Nat → Bool) (M : Nat) : Prop := ¬ hgp T ∨ ∃ m, m < M ∧ me m = true ∧ kn A C n (shf T m)
section CKIND
variable {z : tq_S} {Q : tq_O → tq_S → Prop} {T : Int64} {n : Nat} {C : Nat → Nat}
theorem sq_isShapeOf {k : Nat} {s : Int64} (hk : k < 6) (hC : tq_ai z 25 k = nI (C k)) (h8 : C k ≤ 8) (k0 : (¬ ∃ i, i < C k ∧ tq_al z 24 (8 * k + i) = s) → Q (.inl (some (.int 0))) z) (k1 : (∃ i, i < C k ∧ tq_al z 24 (8 * k + i) = s) → Q (.inl (some (.int 1))) z) : wm_X8_isShapeOf (nI k) s z Q := by
  unfold wm_X8_isShapeOf wc_X8_isShapeOf_3
  refine lp_inv (fun i st => st = (nI i, z) ∧ ∀ j, j < i → tq_al z 24 (8 * k + j) ≠ s) (C k) ?_ ⟨rfl, fun j hj => absurd hj (by omega)⟩
  rintro i st hi ⟨rfl, hn⟩ B hB
  simp only
  unfold wb_X8_isShapeOf_3
  rw [i_cl (by omega), hC, i_le (by omega) (by omega), i_8, pk_mul, i_add, i_cl (by omega), show k * 8 + i = 8 * k + i by omega]
  refine ⟨i_in hk (by omega), fun q => k0 ?_, fun q => ⟨i_in (by omega) (by omega), fun u v e => ?_, fun u => k1 ⟨i, by omega, u⟩⟩⟩
  · rintro ⟨j, hj, e⟩
    exact hn j (by omega) e
  · rw [i_1, i_add] at e
    subst e
    refine hB (by omega) _ ⟨rfl, fun j hj => ?_⟩
    by_cases q2 : j = i
    · rw [q2]; exact u
    · exact hn j (by omega)
theorem sq_isShapeOfAny {s : Int64} (hn : n ≤ 6) (en : tq_fi z 1477 = nI n) (hC : ∀ k, k < n → tq_ai z 25 k = nI (C k) ∧ C k ≤ 8) (k0 : ¬ kn (tq_al z 24) C n s → Q (.inl (some (.int 0))) z) (k1 : kn (tq_al z 24) C n s → Q (.inl (some (.int 1))) z) : wm_X8_isShapeOfAny s z Q := by
  unfold wm_X8_isShapeOfAny wc_X8_isShapeOfAny_2
  refine lp_inv (fun i st => st = (nI i, z) ∧ ∀ j, j < i → ¬ ∃ i, i < C j ∧ tq_al z 24 (8 * j + i) = s) n ?_ ⟨rfl, fun j hj => absurd hj (by omega)⟩
  rintro i st hi ⟨rfl, hno⟩ B hB
  simp only
  unfold wb_X8_isShapeOfAny_2
  rw [en, i_le (by omega) (by omega)]
  refine ⟨fun q => k0 ?_, fun q => ?_⟩
  · rintro ⟨j, hj, e⟩
    exact hno j (by omega) e
  · have hc := hC i (by omega)
    refine sq_isShapeOf (by omega) hc.1 hc.2 (fun u => ⟨_, rfl, fun _ v e => ?_, fun h => absurd rfl h⟩) (fun u => ⟨_, rfl, fun h => absurd h (by decide +kernel), fun _ => k1 ⟨i, by omega, u⟩⟩)
    rw [i_1, i_add] at e
    subst e
    refine hB (by omega) _ ⟨rfl, fun j hj => ?_⟩
    by_cases q2 : j = i
    · rw [q2]; exact u
    · exact hno j (by omega)
theorem sq_isAmong {st many : Nat} {s : Int64} (hs : st + many ≤ 48) (k0 : (¬ ∃ i, i < many ∧ tq_al z 24 (st + i) = s) → Q (.inl (some (.int 0))) z) (k1 : (∃ i, i < many ∧ tq_al z 24 (st + i) = s) → Q (.inl (some (.int 1))) z) : wm_X8_isAmong (nI st) (nI many) s z Q := by
  unfold wm_X8_isAmong wc_X8_isAmong_3
  refine lp_inv (fun i s' => s' = (nI (st + i), z) ∧ ∀ j, j < i → tq_al z 24 (st + j) ≠ s) many ?_ ⟨rfl, fun j hj => absurd hj (by omega)⟩
  rintro i s' hi ⟨rfl, hn⟩ B hB
  simp only
  unfold wb_X8_isAmong_3
  rw [i_add, i_le (by omega) (by omega), i_cl (by omega)]
  refine ⟨fun q => k0 ?_, fun q => ⟨i_in (by omega) (by omega), fun u v e => ?_, fun u => k1 ⟨i, by omega, u⟩⟩⟩
  · rintro ⟨j, hj, e⟩
    exact hn j (by omega) e
  · rw [i_1, i_add] at e
    subst e
    refine hB (by omega) _ ⟨rfl, fun j hj => ?_⟩
    by_cases q2 : j = i
    · rw [q2]; exact u
    · exact hn j (by omega)
def FMk : List (Nat × Nat) := [(3, 24)]
theorem sq_makeShapes {a1 a2 : Int32} (hn : n < 6) (en : tq_fi z 1477 = nI n) (hC : ∀ k, k < n → tq_ai z 25 k = nI (C k) ∧ C k ≤ 8) (eT : tq_fl z 1476 = T) (hT : wS T) (h6 : fb_ct (ct T) 64 ≤ 6) (h0 : ∃ i, ct T i = true) (k0 : kbad (tq_al z 24) C n T (mean a1 a2) 8 → ∀ z', fr FMk z z' → (∀ j, j < 8 * n → tq_al z' 24 j = tq_al z 24 j) → Q (.inl (some (.int 0))) z') (k1 : ¬ kbad (tq_al z 24) C n T (mean a1 a2) 8 → ∀ z', fr FMk z z' → (∀ j, j < 8 * n → tq_al z' 24 j = tq_al z 24 j) → (∀ i, i < (pl (shf T) (mean a1 a2) 8).1 → tq_al z' 24 (8 * n + i) = (pl (shf T) (mean a1 a2) 8).2 i) → Q (.inl (some (.int (nI (pl (shf T) (mean a1 a2) 8).1)))) z') : wm_X8_makeShapes a1 a2 z Q := by
  obtain ⟨lo, _, l1, l2⟩ : ∃ k, k ≤ _ ∧ ct T k = true ∧ ∀ j, j < k → ct T j = false := ct_first _ h0.choose_spec
  unfold wm_X8_makeShapes
  refine sq_cHangs eT hT h6 l1 l2 (fun u => ⟨_, rfl, fun _ => k0 (Or.inl u) z fr_r (fun _ _ => rfl), fun h => absurd rfl h⟩) (fun hg => ⟨_, rfl, fun h => absurd h (by decide +kernel), fun _ => ?_⟩)
  rw [en, i_6, i_lt (by omega) (by omega)]
  refine ⟨fun _ => ?_, fun h => absurd hn h⟩
  intro v3 e3
  rw [i_8, pk_mul, show n * 8 = 8 * n by omega] at e3
  subst e3
  unfold wc_X8_makeShapes_32
  have frm : ∀ z1, fr FMk z z1 → (∀ j, j < 8 * n → tq_al z1 24 j = tq_al z 24 j) → ∀ s, kn (tq_al z1 24) C n s ↔ kn (tq_al z 24) C n s := by
    intro z1 f1 h1 s
    constructor
    · rintro ⟨k, hk, i, hi, e⟩
      have := (hC k hk).2
      exact ⟨k, hk, i, hi, by rw [← h1 _ (by omega)]; exact e⟩
    · rintro ⟨k, hk, i, hi, e⟩
      have := (hC k hk).2
      exact ⟨k, hk, i, hi, by rw [h1 _ (by omega)]; exact e⟩
  refine lp_inv (fun m st => ∃ z1, st = (nI (pl (shf T) (mean a1 a2) m).1, nI m, z1) ∧ fr FMk z z1 ∧ (∀ j, j < 8 * n → tq_al z1 24 j = tq_al z 24 j) ∧ (∀ i, i < (pl (shf T) (mean a1 a2) m).1 → tq_al z1 24 (8 * n + i) = (pl (shf T) (mean a1 a2) m).2 i) ∧ ∀ m', m' < m → mean a1 a2 m' = true → ¬ kn (tq_al z 24) C n (shf T m')) 8 ?_ ⟨z, rfl, fr_r, fun _ _ => rfl, fun i hi => absurd hi (Nat.not_lt_zero _), fun m' h => absurd h (by omega)⟩
  rintro m st hm ⟨z1, rfl, f1, h1, h2, h3⟩ B hB
  simp only
  have pm := pl_l (f := shf T) (me := mean a1 a2) m
  unfold wb_X8_makeShapes_32
  have go : ∀ s0, (s0 = bi (mean a1 a2 m)) → m < 8 → wc_X8_makeShapes_65 (fun b4 b5 z => B (b4, b5, z)) Q a1 a2 (nI (8 * n)) (nI (pl (shf T) (mean a1 a2) m).1) (nI m) s0 z1 := by
    intro s0 es hm8
    subst es
    unfold wc_X8_makeShapes_65
    have eT1 : tq_fl z1 1476 = T := (fr_fl (k := 1476) f1 (by decide)).trans eT
    have en1 : tq_fi z1 1477 = nI n := (fr_fi (k := 1477) f1 (by decide)).trans en
    have hC1 : ∀ k, k < n → tq_ai z1 25 k = nI (C k) ∧ C k ≤ 8 := fun k hk => ⟨by rw [fr_ai (k := 25) f1 (by decide)]; exact (hC k hk).1, (hC k hk).2⟩
    rw [eT1]
    refine sq_cMoved hT h0 hm8 (fun t ht => ⟨_, rfl, ?_⟩)
    have et : t = shf T m := nzs_e ht
    have stay : pl (shf T) (mean a1 a2) (m + 1) = pl (shf T) (mean a1 a2) m → (mean a1 a2 m = true → ¬ kn (tq_al z 24) C n (shf T m)) → wc_X8_makeShapes_125 (fun b4 b5 z => B (b4, b5, z)) Q a1 a2 (nI (8 * n)) (nI (pl (shf T) (mean a1 a2) m).1) (nI m) z1 := by
      intro e h
      unfold wc_X8_makeShapes_125
      intro v ev
      rw [i_1, i_add] at ev
      subst ev
      refine hB hm8 _ ⟨z1, by rw [e], f1, h1, by rw [e]; exact h2, fun m' hm' hme => ?_⟩
      by_cases q : m' = m
      · rw [q] at hme ⊢; exact h hme
      · exact h3 m' (by omega) hme
    refine ⟨fun h => ?_, fun h => ?_⟩
    · rw [bi_0] at h
      unfold wc_X8_makeShapes_94
      refine ⟨fun _ => stay (pl_n h) (fun h' => by rw [h] at h'; cases h'), fun h' => ?_⟩
      rw [bi_n, h] at h'; cases h'
    · rw [bi_n] at h
      refine sq_isShapeOfAny (by omega) en1 hC1 (fun u => ⟨_, rfl, fun _ => ?_, fun h => absurd rfl h⟩) (fun u => ⟨_, rfl, fun h => absurd h (by decide +kernel), fun _ => ?_⟩)
      · rw [frm z1 f1 h1, et] at u
        unfold wc_X8_makeShapes_94
        refine ⟨fun h' => ?_, fun _ => ?_⟩
        · rw [bi_0, h] at h'; cases h'
        · refine sq_isAmong (by omega) (fun u2 => ⟨_, rfl, fun h => absurd rfl h, fun _ => ?_⟩) (fun u2 => ⟨_, rfl, fun _ => ?_, fun h => absurd h (by decide +kernel)⟩)
          · have u2' : ¬ ∃ i, i < (pl (shf T) (mean a1 a2) m).1 ∧ (pl (shf T) (mean a1 a2) m).2 i = shf T m := by
              rintro ⟨i, hi, e⟩
              exact u2 ⟨i, hi, by rw [h2 i hi, et]; exact e⟩
            have ep := pl_y h u2'
            rw [i_add]
            refine ⟨i_in (by omega) (by omega), fun z3 e3 v4 e4 => ?_⟩
            rw [i_cl (by omega)] at e3
            rw [i_1, i_add] at e4
            subst e4
            have f3 : fr FMk z z3 := by rw [e3]; exact fr_sal (by decide) f1
            have v3 : ∀ j, tq_al z3 24 j = if j = 8 * n + (pl (shf T) (mean a1 a2) m).1 then t else tq_al z1 24 j := by
              intro j
              rw [e3, rw_ale]; rfl
            unfold wc_X8_makeShapes_125
            intro v ev
            rw [i_1, i_add] at ev
            subst ev
            refine hB hm8 _ ⟨z3, by rw [ep], f3, fun j hj => by rw [v3, if_neg (by omega)]; exact h1 j hj, ?_, fun m' hm' hme => ?_⟩
            · rw [ep]
              intro i hi
              have hi : i < (pl (shf T) (mean a1 a2) m).1 + 1 := hi
              show tq_al z3 24 (8 * n + i) = if i = (pl (shf T) (mean a1 a2) m).1 then shf T m else (pl (shf T) (mean a1 a2) m).2 i
              rw [v3]
              by_cases q : i = (pl (shf T) (mean a1 a2) m).1
              · rw [if_pos (by omega), if_pos q]; exact et
              · rw [if_neg (by omega), if_neg q]; exact h2 i (by omega)
            · by_cases q : m' = m
              · rw [q]; exact u
              · exact h3 m' (by omega) hme
          · have u2' : ∃ i, i < (pl (shf T) (mean a1 a2) m).1 ∧ (pl (shf T) (mean a1 a2) m).2 i = shf T m := by
              obtain ⟨i, hi, e⟩ := u2
              exact ⟨i, hi, by rw [← h2 i hi, ← et]; exact e⟩
            exact stay (pl_k u2') (fun _ => u)
      · rw [frm z1 f1 h1, et] at u
        exact k0 (Or.inr ⟨m, by omega, h, u⟩) z1 f1 h1
  rw [i_8, i_le (by omega) (by omega)]
  refine ⟨fun q => ?_, fun q => ?_⟩
  · have : m = 8 := by omega
    subst this
    refine k1 ?_ z1 f1 h1 h2
    rintro (u | ⟨m', a, b, c⟩)
    · exact u hg
    · exact h3 m' a b c
  · have g1 : mean a1 a2 m = true → wc_X8_makeShapes_60 (fun b4 b5 z => B (b4, b5, z)) Q a1 a2 (nI (8 * n)) (nI (pl (shf T) (mean a1 a2) m).1) (nI m) z1 := fun e => by
      unfold wc_X8_makeShapes_60
      exact go 1 (by rw [e]; rfl) (by omega)
    have g0 : mean a1 a2 m = false → wc_X8_makeShapes_64 (fun b4 b5 z => B (b4, b5, z)) Q a1 a2 (nI (8 * n)) (nI (pl (shf T) (mean a1 a2) m).1) (nI m) z1 := fun e => by
      unfold wc_X8_makeShapes_64
      exact go 0 (by rw [e]; rfl) (by omega)
    have g50 : (a1 = 0 → m % 4 = 0) → wc_X8_makeShapes_50 (fun b4 b5 z => B (b4, b5, z)) Q a1 a2 (nI (8 * n)) (nI (pl (shf T) (mean a1 a2) m).1) (nI m) z1 := fun e => by
      unfold wc_X8_makeShapes_50
      rw [i_4, i_le (by omega) (by omega)]
      have l : (!decide (a1 = 0) || decide (m % 4 = 0)) = true := by
        by_cases c : a1 = 0
        · rw [decide_eq_true (e c), Bool.or_true]
        · rw [decide_eq_false c]; rfl
      refine ⟨fun h => g1 ?_, fun h => ⟨fun h4 => g0 ?_, fun h4 => g1 ?_⟩⟩
      · unfold mean; rw [l, decide_eq_false h]; rfl
      · unfold mean; rw [l, decide_eq_true h, decide_eq_false (by omega : ¬ m < 4)]; rfl
      · unfold mean; rw [l, decide_eq_true (by omega : m < 4), Bool.or_true]; rfl
    refine ⟨fun h => g50 (fun h' => absurd h' h), fun h => ?_⟩
    rw [i_4, pk_rem (by omega) (by omega) (by omega), show (0 : Int32) = nI 0 from rfl, i_eq (by omega) (by omega)]
    refine ⟨fun h4 => g0 ?_, fun h4 => g50 (fun _ => h4)⟩
    unfold mean; rw [decide_eq_true h, decide_eq_false h4]; rfl
end CKIND
