section COL
variable {w h : Nat} {r : Bool} {S : Nat → Bool} {z : tq_S} {Q : tq_O → tq_S → Prop} {K : Nat} {C M Z : Nat → Nat} {A : Nat → Int64}
/-- what stays while places are collected -/
def cst (w h : Nat) (r : Bool) (S : Nat → Bool) (K : Nat) (C M Z : Nat → Nat) (A : Nat → Int64) (g0 : Nat) (z : tq_S) : Prop := jc w h r S z ∧ cnm S z ∧ grd w h r S g0 z ∧ kdc K C M Z A z
theorem cst_f {F : List (Nat × Nat)} {z' : tq_S} {g0 : Nat} (f : fr F z z') (h1 : (0, 64) ∉ F) (h2 : (0, 65) ∉ F) (h3 : (0, 66) ∉ F) (h4 : (1, 67) ∉ F) (h5 : (0, 1804) ∉ F) (h6 : (2, 31) ∉ F) (h7 : (2, 32) ∉ F) (h8 : (0, 1806) ∉ F) (h9 : (2, 33) ∉ F) (ha : (0, 1477) ∉ F) (hb : (2, 25) ∉ F) (hc : (2, 26) ∉ F) (hd : (2, 27) ∉ F) (he : (3, 24) ∉ F) (hh : cst w h r S K C M Z A g0 z) : cst w h r S K C M Z A g0 z' := by
  obtain ⟨a, b, ⟨c1, c2, c3, c4⟩, d⟩ := hh
  refine ⟨jc_f f h1 h2 h3 h4 a, cnm_f f h5 h6 h7 b, ⟨by rw [fr_fi f h8]; exact c1, c2, c3, fun m hm hg i hi => ?_⟩, kdc_f f ha hb hc hd he d⟩
  rw [fr_ai f h9]
  exact c4 m hm hg i hi
/-- the cells of the i-th shape of a kind with a part at the first cell are among the places -/
def cdn (w : Nat) (r : Bool) (S : Nat → Bool) (C : Nat → Nat) (A : Nat → Int64) (P : Nat) (f : Nat → plc) (fst k i part : Nat) : Prop := i < C k → part < 6 → ct (A (8 * k + i)) part = true → ∀ m, cvF w r S (A (8 * k + i)) (kth S fst % 8) (kth S fst / 8) part fst 36 = some m → ∃ p, p < P ∧ (f p).1 = fst ∧ (f p).2.1 = k ∧ (f p).2.2.1 = m
theorem sq_try {fst k i part P P0 g : Nat} {f : Nat → plc} (hd : jd w h r S) (hs : shps K C Z A) (h24 : fb_ct S 64 ≤ 24) (hC : ∀ k, k < K → C k ≤ 8) (hK : K ≤ 6) (hfst : fst < fb_ct S 64) (hk : k < K) (hi : i < C k) (hp : part < 6) (hb : ct (A (8 * k + i)) part = true) (hg : g < 256) (hgb : ∀ b, g.testBit b = (grB w h r S b && motB C A k (A (8 * k + i)) b)) (hr : prs w h r S K C A P f z) (hP : P0 ≤ P) (hlex : ∀ p, p < P0 → (f p).1 < fst ∨ ((f p).1 = fst ∧ (f p).2.1 < k)) (hseg : ∀ p, P0 ≤ p → p < P → (f p).1 = fst ∧ (f p).2.1 = k) {m : Nat} (hm : cvF w r S (A (8 * k + i)) (kth S fst % 8) (kth S fst / 8) part fst 36 = some m) (kk : ∀ z' P' f', fr [(3, 29), (0, 1805)] z z' → prs w h r S K C A P' f' z' → P0 ≤ P' → (∀ p, p < P0 → f' p = f p) → (∀ p, P0 ≤ p → p < P' → (f' p).1 = fst ∧ (f' p).2.1 = k) → (∀ y, (∃ p, p < P ∧ f p = y) → ∃ p, p < P' ∧ f' p = y) → (∃ p, p < P' ∧ (f' p).1 = fst ∧ (f' p).2.1 = k ∧ (f' p).2.2.1 = m) → Q (.inl none) z') : wm_X4_insert (nI P0) ((lN (2 ^ 32 * k) ||| lN (2 ^ 24 * g)) ||| Int32.toInt64 (nI m)) z Q := by
  have m24 := cvF_b h24 36 m hm
  have c8 := hC k hk
  obtain ⟨x, hx⟩ : ∃ x : plc, x = (fst, k, m, g) := ⟨_, rfl⟩
  have xs : srcs w h r S K C A x := by
    rw [hx]
    exact ⟨hk, hfst, i, part, hi, hp, hb, hm, hgb⟩
  have xb : pcb x := by rw [hx]; exact ⟨by show fst < 24; omega, by show k < 6; omega, m24, hg⟩
  have tag : (lN (2 ^ 32 * k) ||| lN (2 ^ 24 * g)) ||| Int32.toInt64 (nI m) = lN (pcE x) := by
    rw [i_to (by omega), fb_or_sumL k (show 2 ^ 24 * g < 2 ^ 32 by omega), show 2 ^ 32 * k + 2 ^ 24 * g = 2 ^ 24 * (2 ^ 8 * k + g) by omega, fb_or_sumL _ m24, hx]
    unfold pcE
    congr 1
    show 2 ^ 24 * (2 ^ 8 * k + g) + m = 2 ^ 32 * k + 2 ^ 24 * g + m
    omega
  rw [tag]
  have x1 : x.1 = fst := by rw [hx]
  have x2 : x.2.1 = k := by rw [hx]
  have x3 : x.2.2.1 = m := by rw [hx]
  have dup : (∃ p, P0 ≤ p ∧ p < P ∧ (f p).2.2.1 = x.2.2.1) → Q (.inl none) z := by
    rintro ⟨p, p1, p2, p3⟩
    have sp := hseg p p1 p2
    exact kk z P f fr_r hr hP (fun _ _ => rfl) hseg (fun y hy => hy) ⟨p, p2, sp.1, sp.2, by rw [p3, x3]⟩
  by_cases hdup : ∃ p, P0 ≤ p ∧ p < P ∧ (f p).2.2.1 = x.2.2.1
  · by_cases p1152 : P < 1152
    · refine sq_insert hr.1 p1152 hP xb (fun p hp => ?_) (fun p a b => by rw [x1, x2]; exact hseg p a b) dup (fun hn => absurd hdup hn)
      rcases hlex p hp with u | ⟨u, v⟩
      · exact Or.inl (by rw [x1]; exact u)
      · exact Or.inr ⟨by rw [x1]; exact u, Or.inl (by rw [x2]; exact v)⟩
    · have le := src_le hd hC hK hs h24 hr.2 (prs_ne hd hr)
      unfold wm_X4_insert
      rw [hr.1.1, show (1152 : Int32) = nI 1152 from rfl, i_lt (by omega) (by omega)]
      exact ⟨fun u => absurd u p1152, fun _ => dup hdup⟩
  · have new : ∀ p, p < P → ¬ ((f p).2.1 = x.2.1 ∧ (f p).2.2.1 = x.2.2.1) := fun p hp u => by
      have e1 := src_1 hd (hr.2 p hp) xs u.2
      by_cases q : p < P0
      · rcases hlex p q with v | ⟨_, v⟩
        · rw [e1, x1] at v; exact Nat.lt_irrefl _ v
        · rw [u.1, x2] at v; exact Nat.lt_irrefl _ v
      · exact hdup ⟨p, by omega, hp, u.2⟩
    have le := src_le (P := P + 1) (f := fun p => if p < P then f p else x) hd hC hK hs h24 (fun p hp => by
      by_cases q : p < P
      · rw [if_pos q]; exact hr.2 p q
      · rw [if_neg q]; exact xs) (fun p p' hp hp' e1 e2 => by
      by_cases q : p < P
      · by_cases q' : p' < P
        · rw [if_pos q, if_pos q'] at e1 e2
          exact prs_ne hd hr p p' q q' e1 e2
        · rw [if_pos q, if_neg q'] at e1 e2
          exact absurd ⟨e1, e2⟩ (new p q)
      · by_cases q' : p' < P
        · rw [if_neg q, if_pos q'] at e1 e2
          exact absurd ⟨e1.symm, e2.symm⟩ (new p' q')
        · omega)
    refine sq_insert hr.1 (by omega) hP xb (fun p hp => ?_) (fun p a b => by rw [x1, x2]; exact hseg p a b) (fun u => absurd u hdup) (fun _ z' q f' q1 q2 r' => ?_)
    · rcases hlex p hp with u | ⟨u, v⟩
      · exact Or.inl (by rw [x1]; exact u)
      · exact Or.inr ⟨by rw [x1]; exact u, Or.inl (by rw [x2]; exact v)⟩
    · refine kk z' (P + 1) (insF f q x) f' ⟨r', fun p hp => ?_⟩ (by omega) (fun p hp => ?_) (fun p p1 p2 => ?_) (fun y hy => (ins_mem q2 y).mpr (Or.inr hy)) ⟨q, by omega, ?_⟩
      · unfold insF
        split
        · exact hr.2 _ (by omega)
        · split
          · exact xs
          · exact hr.2 _ (by omega)
      · unfold insF
        rw [if_pos (by omega)]
      · unfold insF
        split
        · exact hseg _ p1 (by omega)
        · split
          · exact ⟨x1, x2⟩
          · exact hseg _ (by omega) (by omega)
      · unfold insF
        rw [if_neg (Nat.lt_irrefl _), if_pos rfl]
        exact ⟨x1, x2, x3⟩
theorem sq_collectKind {fst k P0 g0 : Nat} {f0 : Nat → plc} (hd : jd w h r S) (hs : shps K C Z A) (h24 : fb_ct S 64 ≤ 24) (hst : cst w h r S K C M Z A g0 z) (hfst : fst < fb_ct S 64) (hk : k < K) (hr : prs w h r S K C A P0 f0 z) (hlex : ∀ p, p < P0 → (f0 p).1 < fst ∨ ((f0 p).1 = fst ∧ (f0 p).2.1 < k)) (kk : ∀ z' P' f', fr [(3, 29), (0, 1805)] z z' → prs w h r S K C A P' f' z' → P0 ≤ P' → (∀ p, p < P0 → f' p = f0 p) → (∀ p, P0 ≤ p → p < P' → (f' p).1 = fst ∧ (f' p).2.1 = k) → (∀ i part, cdn w r S C A P' f' fst k i part) → Q (.inl none) z') : wm_X4_collectKind (nI fst) (nI k) z Q := by
  have hC : ∀ k, k < K → C k ≤ 8 := fun k hk => (hst.2.2.2.2.2 k hk).1.2
  have hK := hst.2.2.2.2.1
  have c8 := hC k hk
  unfold wm_X4_collectKind
  intro v0 e0
  rw [hr.1.1] at e0
  subst e0
  unfold wc_X4_collectKind_8
  refine lp_inv (fun i st => ∃ z1 P f, st = (nI i, z1) ∧ fr [(3, 29), (0, 1805)] z z1 ∧ prs w h r S K C A P f z1 ∧ P0 ≤ P ∧ (∀ p, p < P0 → f p = f0 p) ∧ (∀ p, P0 ≤ p → p < P → (f p).1 = fst ∧ (f p).2.1 = k) ∧ ∀ i' part, i' < i → cdn w r S C A P f fst k i' part) (C k) ?_ ⟨z, P0, f0, rfl, fr_r, hr, Nat.le_refl _, fun _ _ => rfl, fun p a b => absurd b (by omega), fun i' part a => absurd a (Nat.not_lt_zero _)⟩
  rintro i st hi ⟨z1, P, f, rfl, f1, r1, l1, o1, s1, d1⟩ B hB
  simp only
  have st1 := cst_f f1 (by decide) (by decide) (by decide) (by decide) (by decide) (by decide) (by decide) (by decide) (by decide) (by decide) (by decide) (by decide) (by decide) (by decide) hst
  obtain ⟨⟨k1, k2⟩, _, _, k3⟩ := st1.2.2.2.2.2 k hk
  unfold wb_X4_collectKind_8
  rw [i_cl (by omega), k1, i_le (by omega) (by omega)]
  refine ⟨i_in (by omega) (by omega), fun q => ?_, fun q => ?_⟩
  · refine kk z1 P f f1 r1 l1 o1 s1 (fun i' part => ?_)
    by_cases u : i' < i
    · exact d1 i' part u
    · intro a; exact absurd a (by omega)
  have iC : i < C k := by omega
  have ix : nI k * (8 : Int32) + nI i = nI (8 * k + i) := by rw [i_8, pk_mul, i_add, Nat.mul_comm]
  rw [ix, i_cl (by omega), k3 i iC]
  refine ⟨i_in (by omega) (by omega), fun v1 e1 => ?_⟩
  subst e1
  obtain ⟨w1, w2, w3⟩ := hs k hk i iC
  have ex : ∃ j, ct (A (8 * k + i)) j = true := ⟨_, (nmz_0 w2).2⟩
  refine sq_motionsOf st1.2.2.2 hk st1.2.2.1.1 st1.2.2.1.2.1 st1.2.2.1.2.2.1 w1 ex (fun g gl gb => ⟨_, rfl, fun v4 e4 => ?_⟩)
  rw [i_to (by omega), show (32 : Int32) = nI 32 from rfl, l_shlN (by omega)] at e4
  subst e4
  unfold wc_X4_collectKind_57
  refine lp_inv (fun part st => ∃ z2 P' f', st = (nI part, z2) ∧ fr [(3, 29), (0, 1805)] z z2 ∧ prs w h r S K C A P' f' z2 ∧ P0 ≤ P' ∧ (∀ p, p < P0 → f' p = f0 p) ∧ (∀ p, P0 ≤ p → p < P' → (f' p).1 = fst ∧ (f' p).2.1 = k) ∧ ∀ i' part', (i' < i ∨ (i' = i ∧ part' < part)) → cdn w r S C A P' f' fst k i' part') 6 ?_ ⟨z1, P, f, rfl, f1, r1, l1, o1, s1, fun i' part' a => d1 i' part' (by omega)⟩
  rintro part st hp ⟨z2, P', f', rfl, f2, r2, l2, o2, s2, d2⟩ B2 hB2
  simp only
  have st2 := cst_f f2 (by decide) (by decide) (by decide) (by decide) (by decide) (by decide) (by decide) (by decide) (by decide) (by decide) (by decide) (by decide) (by decide) (by decide) hst
  unfold wb_X4_collectKind_57
  rw [i_6, i_le (by omega) (by omega)]
  refine ⟨fun q2 => ?_, fun q2 => ?_⟩
  · unfold wc_X4_collectKind_113
    intro v e
    rw [i_1, i_add] at e
    subst e
    refine hB iC _ ⟨z2, P', f', rfl, f2, r2, l2, o2, s2, fun i' part' a => ?_⟩
    by_cases u : i' < i
    · exact d2 i' part' (Or.inl u)
    · by_cases v : part' < part
      · exact d2 i' part' (Or.inr ⟨by omega, v⟩)
      · intro _ b; exact absurd b (by omega)
  have p6 : part < 6 := by omega
  have nx : ∀ z3 P3 f3, fr [(3, 29), (0, 1805)] z z3 → prs w h r S K C A P3 f3 z3 → P0 ≤ P3 → (∀ p, p < P0 → f3 p = f0 p) → (∀ p, P0 ≤ p → p < P3 → (f3 p).1 = fst ∧ (f3 p).2.1 = k) → (∀ y, (∃ p, p < P' ∧ f' p = y) → ∃ p, p < P3 ∧ f3 p = y) → cdn w r S C A P3 f3 fst k i part → wc_X4_collectKind_107 (fun b4 z => B (b4, z)) (fun b9 z => B2 (b9, z)) Q (nI fst) (nI k) (nI P0) (nI i) (A (8 * k + i)) (lN (2 ^ 32 * k) ||| lN (2 ^ 24 * g)) (nI part) z3 := by
    intro z3 P3 f3 g3 r3 l3 o3 s3 y3 c3
    unfold wc_X4_collectKind_107
    intro v e
    rw [i_1, i_add] at e
    subst e
    refine hB2 p6 _ ⟨z3, P3, f3, rfl, g3, r3, l3, o3, s3, fun i' part' a => ?_⟩
    by_cases u : i' = i ∧ part' = part
    · rw [u.1, u.2]; exact c3
    · intro b1 b2 b3 m b4
      obtain ⟨p, p1, p2, p3, p4⟩ := d2 i' part' (by omega) b1 b2 b3 m b4
      obtain ⟨p', p1', e'⟩ := y3 _ ⟨p, p1, rfl⟩
      exact ⟨p', p1', by rw [e']; exact p2, by rw [e']; exact p3, by rw [e']; exact p4⟩
  rw [ct_t1 (by omega)]
  refine ⟨fun e => ?_, fun e => ?_⟩
  · unfold wc_X4_collectKind_89
    refine ⟨fun _ => nx z2 P' f' f2 r2 l2 o2 s2 (fun y hy => hy) ?_, fun u => absurd rfl u⟩
    intro _ _ u
    rw [e] at u; cases u
  · have e : ct (A (8 * k + i)) part = true := by simpa using e
    refine sq_coveredBy hd st2.1 st2.2.1 h24 p6 hfst ⟨_, rfl, ?_⟩
    unfold wc_X4_collectKind_89
    cases hm : cvF w r S (A (8 * k + i)) (kth S fst % 8) (kth S fst / 8) part fst 36 with
    | none =>
      refine ⟨fun _ => nx z2 P' f' f2 r2 l2 o2 s2 (fun y hy => hy) ?_, fun u => absurd rfl u⟩
      intro _ _ _ m u
      rw [hm] at u; cases u
    | some m =>
      have m24 := cvF_b h24 36 m hm
      have low := cvF_low hd p6 hfst e hm
      have m0 : m ≠ 0 := fun u => by rw [u, Nat.zero_testBit] at low; cases low.1
      show (nI m = 0 → _) ∧ (¬ nI m = 0 → _)
      rw [show (0 : Int32) = nI 0 from rfl, i_eq (by omega) (by omega)]
      refine ⟨fun u => absurd u m0, fun _ => ?_⟩
      refine sq_try hd hs h24 hC hK hfst hk iC p6 e gl gb r2 l2 (fun p hp => by rw [o2 p hp]; exact hlex p hp) s2 hm (fun z3 P3 f3 g3 r3 l3 o3 s3 y3 c3 => ⟨rfl, nx z3 P3 f3 (fr_t f2 g3) r3 l3 (fun p hp => by rw [o3 p hp]; exact o2 p hp) s3 y3 ?_⟩)
      intro _ _ _ m' u
      rw [hm] at u
      rw [← Option.some.inj u]; exact c3
/-- where the places of each first cell begin -/
def sts (n P : Nat) (f : Nat → plc) (st : Nat → Nat) : Prop := ∀ j, j ≤ n → ∀ p, p < P → (p < st j ↔ (f p).1 < j)
theorem sq_collect {g0 : Nat} (hd : jd w h r S) (hs : shps K C Z A) (h24 : fb_ct S 64 ≤ 24) (hst : cst w h r S K C M Z A g0 z) (kk : ∀ z' P f st, fr [(3, 29), (0, 1805), (2, 30)] z z' → prs w h r S K C A P f z' → (∀ j, j ≤ fb_ct S 64 → tq_ai z' 30 j = nI (st j) ∧ st j ≤ P) → sts (fb_ct S 64) P f st → (∀ fst k i part, fst < fb_ct S 64 → k < K → cdn w r S C A P f fst k i part) → Q (.inl none) z') : wm_X4_collect z Q := by
  have hC : ∀ k, k < K → C k ≤ 8 := fun k hk => (hst.2.2.2.2.2 k hk).1.2
  have hK := hst.2.2.2.2.1
  obtain ⟨n, hn⟩ : ∃ n, n = fb_ct S 64 := ⟨_, rfl⟩
  rw [← hn] at kk
  unfold wm_X4_collect
  intro z1 e1
  have f1 : fr [(3, 29), (0, 1805), (2, 30)] z z1 := by rw [e1]; exact fr_sfi (by decide) fr_r
  have r1 : prs w h r S K C A 0 (fun _ => (0, 0, 0, 0)) z1 := ⟨⟨by rw [e1]; rfl, fun p hp => absurd hp (Nat.not_lt_zero _), fun p hp => absurd hp (Nat.not_lt_zero _), fun p p' _ hp => absurd hp (Nat.not_lt_zero _)⟩, fun p hp => absurd hp (Nat.not_lt_zero _)⟩
  unfold wc_X4_collect_7
  refine lp_inv (fun fst st' => ∃ z2 P f st, st' = (nI fst, z2) ∧ fr [(3, 29), (0, 1805), (2, 30)] z z2 ∧ prs w h r S K C A P f z2 ∧ (∀ p, p < P → (f p).1 < fst) ∧ (∀ j, j < fst → tq_ai z2 30 j = nI (st j) ∧ st j ≤ P) ∧ (∀ j, j < fst → ∀ p, p < P → (p < st j ↔ (f p).1 < j)) ∧ ∀ fst' k i part, fst' < fst → k < K → cdn w r S C A P f fst' k i part) n ?_ ⟨z1, 0, fun _ => (0, 0, 0, 0), fun _ => 0, rfl, f1, r1, fun p hp => absurd hp (Nat.not_lt_zero _), fun j hj => absurd hj (Nat.not_lt_zero _), fun j hj => absurd hj (Nat.not_lt_zero _), fun fst' _ _ _ a => absurd a (Nat.not_lt_zero _)⟩
  rintro fst st' hf ⟨z2, P, f, st, rfl, f2, r2, a2, b2, c2, d2⟩ B hB
  simp only
  have st2 := cst_f f2 (by decide) (by decide) (by decide) (by decide) (by decide) (by decide) (by decide) (by decide) (by decide) (by decide) (by decide) (by decide) (by decide) (by decide) hst
  have P2 := src_le hd hC hK hs h24 r2.2 (prs_ne hd r2)
  have put : ∀ z3, z3 = tq_sai z2 30 (upd (tq_ai z2 30) fst (nI P)) → fr [(3, 29), (0, 1805), (2, 30)] z z3 ∧ prs w h r S K C A P f z3 ∧ (∀ j, j < fst + 1 → tq_ai z3 30 j = nI (if j = fst then P else st j) ∧ (if j = fst then P else st j) ≤ P) ∧ ∀ j, j < fst + 1 → ∀ p, p < P → (p < (if j = fst then P else st j) ↔ (f p).1 < j) := by
    intro z3 e3
    have g3 : fr [(2, 30)] z2 z3 := by rw [e3]; exact fr_sai (by decide) fr_r
    refine ⟨fr_t f2 (fr_m (by decide) g3), ⟨⟨by rw [fr_fi g3 (by decide)]; exact r2.1.1, fun p hp => by rw [fr_al g3 (by decide)]; exact r2.1.2.1 p hp, r2.1.2.2⟩, r2.2⟩, fun j hj => ?_, fun j hj p hp => ?_⟩
    · have a3 : tq_ai z3 30 j = if j = fst then nI P else tq_ai z2 30 j := by rw [e3, rw_aie, rw_upd]
      rw [a3]
      by_cases u : j = fst
      · rw [if_pos u, if_pos u]; exact ⟨rfl, Nat.le_refl _⟩
      · rw [if_neg u, if_neg u]; exact b2 j (by omega)
    · by_cases u : j = fst
      · rw [if_pos u, u]
        exact ⟨fun _ => a2 p hp, fun _ => hp⟩
      · rw [if_neg u]; exact c2 j (by omega) p hp
  unfold wb_X4_collect_7
  rw [st2.2.1.1, ← hn, i_le (by omega) (by omega)]
  refine ⟨fun q => ?_, fun q => ⟨i_in (by omega) (by omega), fun z3 e3 => ?_⟩⟩
  · have : fst = n := by omega
    subst this
    unfold wc_X4_collect_56
    rw [st2.2.1.1, ← hn, i_cl (by omega), r2.1.1]
    refine ⟨i_in (by omega) (by omega), fun z3 e3 => ?_⟩
    obtain ⟨p1, p2, p3, p4⟩ := put z3 e3
    exact kk z3 P f _ p1 p2 (fun j hj => p3 j (by omega)) (fun j hj => p4 j (by omega)) d2
  rw [i_cl (by omega), r2.1.1] at e3
  obtain ⟨p1, p2, p3, p4⟩ := put z3 e3
  unfold wc_X4_collect_27
  refine lp_inv (fun k st' => ∃ z4 P' f', st' = (nI k, z4) ∧ fr [(3, 29), (0, 1805)] z3 z4 ∧ prs w h r S K C A P' f' z4 ∧ P ≤ P' ∧ (∀ p, p < P → f' p = f p) ∧ (∀ p, P ≤ p → p < P' → (f' p).1 = fst ∧ (f' p).2.1 < k) ∧ ∀ k' i part, k' < k → cdn w r S C A P' f' fst k' i part) K ?_ ⟨z3, P, f, rfl, fr_r, p2, Nat.le_refl _, fun _ _ => rfl, fun p a b => absurd b (by omega), fun k' _ _ a => absurd a (Nat.not_lt_zero _)⟩
  rintro k st' hk ⟨z4, P', f', rfl, f4, r4, l4, o4, s4, d4⟩ B2 hB2
  simp only
  have st4 := cst_f (fr_t p1 (fr_m (by decide) f4)) (by decide) (by decide) (by decide) (by decide) (by decide) (by decide) (by decide) (by decide) (by decide) (by decide) (by decide) (by decide) (by decide) (by decide) hst
  unfold wb_X4_collect_27
  rw [st4.2.2.2.1, i_le (by omega) (by omega)]
  refine ⟨fun q2 => ?_, fun q2 => ?_⟩
  · have : k = K := by omega
    subst this
    unfold wc_X4_collect_50
    intro v e
    rw [i_1, i_add] at e
    subst e
    refine hB (by omega) _ ⟨z4, P', f', fun j => if j = fst then P else st j, rfl, fr_t p1 (fr_m (by decide) f4), r4, fun p hp => ?_, fun j hj => ?_, fun j hj p hp => ?_, fun fst' k' i part a b => ?_⟩
    · by_cases u : p < P
      · rw [o4 p u]
        have := a2 p u
        omega
      · have := (s4 p (by omega) hp).1
        omega
    · obtain ⟨x1, x2⟩ := p3 j hj
      exact ⟨by rw [fr_ai f4 (by decide)]; exact x1, Nat.le_trans x2 l4⟩
    · by_cases u : p < P
      · rw [o4 p u]; exact p4 j hj p u
      · have s := (s4 p (by omega) hp).1
        have l := (p3 j hj).2
        show (p < (if j = fst then P else st j) ↔ (f' p).1 < j)
        omega
    · by_cases u : fst' = fst
      · rw [u]; exact d4 k' i part b
      · intro y1 y2 y3 m y4
        obtain ⟨p, q1, q2', q3, q4⟩ := d2 fst' k' i part (by omega) b y1 y2 y3 m y4
        exact ⟨p, by omega, by rw [o4 p q1]; exact q2', by rw [o4 p q1]; exact q3, by rw [o4 p q1]; exact q4⟩
  · refine sq_collectKind (P0 := P') (f0 := f') hd hs h24 st4 (by omega) (by omega) r4 (fun p hp => ?_) (fun z5 P5 f5 g5 r5 l5 o5 s5 d5 => ⟨rfl, fun v e => ?_⟩)
    · by_cases u : p < P
      · rw [o4 p u]; exact Or.inl (a2 p u)
      · exact Or.inr (s4 p (by omega) hp)
    · rw [i_1, i_add] at e
      subst e
      refine hB2 (by omega) _ ⟨z5, P5, f5, rfl, fr_t f4 g5, r5, by omega, fun p hp => by rw [o5 p (by omega)]; exact o4 p hp, fun p a b => ?_, fun k' i part a => ?_⟩
      · by_cases u : p < P'
        · rw [o5 p u]
          have := s4 p a u
          exact ⟨this.1, by omega⟩
        · have := s5 p (by omega) b
          exact ⟨this.1, by omega⟩
      · by_cases u : k' = k
        · rw [u]; exact d5 i part
        · intro y1 y2 y3 m y4
          obtain ⟨p, q1, q2', q3, q4⟩ := d4 k' i part (by omega) y1 y2 y3 m y4
          exact ⟨p, by omega, by rw [o5 p q1]; exact q2', by rw [o5 p q1]; exact q3, by rw [o5 p q1]; exact q4⟩
end COL
