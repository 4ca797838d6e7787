/-! ===== exact covers: the reference tells its places ===== -/
section RTP
variable {w h : Nat} {r : Bool} {S : Nat → Bool} {z : tq_S} {Q : tq_O → tq_S → Prop} {K : Nat} {C M Z : Nat → Nat} {A : Nat → Int64}
/-- the kinds as the reference has them -/
def rdc (K : Nat) (C M : Nat → Nat) (A : Nat → Int64) (z : tq_S) : Prop := tq_fi z 3290 = nI K ∧ K ≤ 6 ∧ ∀ k, k < K → (tq_ai z 68 k = nI (C k) ∧ C k ≤ 8) ∧ tq_ai z 67 k = nI (M k) ∧ ∀ i, i < C k → tq_al z 69 (8 * k + i) = A (8 * k + i)
theorem rdc_f {F : List (Nat × Nat)} {z' : tq_S} (f : fr F z z') (h1 : (0, 3290) ∉ F) (h2 : (2, 68) ∉ F) (h3 : (2, 67) ∉ F) (h4 : (3, 69) ∉ F) (hh : rdc K C M A z) : rdc K C M A z' := by
  obtain ⟨a, b, c⟩ := hh
  refine ⟨by rw [fr_fi f h1]; exact a, b, fun k hk => ?_⟩
  rw [fr_ai f h2, fr_ai f h3, fr_al f h4]
  exact c k hk
theorem rrow_f {F : List (Nat × Nat)} {z' : tq_S} {P : Nat} {f : Nat → plc} (g : fr F z z') (h1 : (0, 3294) ∉ F) (h2 : (3, 70) ∉ F) (h3 : (2, 71) ∉ F) (h4 : (2, 72) ∉ F) (hh : rrow S P f z) : rrow S P f z' := by
  obtain ⟨a, b, c⟩ := hh
  refine ⟨by rw [fr_fi g h1]; exact a, fun p hp => ?_, c⟩
  unfold rat
  rw [fr_al g h2, fr_ai g h3, fr_ai g h4]
  exact b p hp
/-- where a place of the reference comes from -/
def rsrc (w h : Nat) (r : Bool) (S : Nat → Bool) (K : Nat) (C : Nat → Nat) (A : Nat → Int64) (x : plc) : Prop := x.2.1 < K ∧ ∃ i c, i < C x.2.1 ∧ c < 64 ∧ c % 8 < w ∧ c / 8 < h ∧ cvF w r S (A (8 * x.2.1 + i)) (c % 8) (c / 8) 0 0 36 = some x.2.2.1
def rdn (w h : Nat) (r : Bool) (S : Nat → Bool) (C : Nat → Nat) (A : Nat → Int64) (P : Nat) (f : Nat → plc) (k i c : Nat) : Prop := i < C k → c < 64 → c % 8 < w → c / 8 < h → ∀ m, cvF w r S (A (8 * k + i)) (c % 8) (c / 8) 0 0 36 = some m → ∃ p, p < P ∧ (f p).2.1 = k ∧ (f p).2.2.1 = m
theorem cvF_n2 {s : Int64} {fx fy part fst m : Nat} (e : cvF w r S s fx fy part fst 36 = some m) : m < 2 ^ fb_ct S 64 := by
  obtain ⟨_, o3⟩ := (cvF_t 36).1 m e
  refine Nat.lt_pow_two_of_testBit m fun b hb => ?_
  cases q : m.testBit b
  · rfl
  · obtain ⟨j, a, b', c⟩ := (o3 b).mp q
    obtain ⟨c', c1, c2, _, _, c5⟩ := cix_to c
    have := ct_in c1 c2
    omega
/-- the first cell of a place -/
theorem cvF_fst {s : Int64} {fx fy part fst m : Nat} (hs : wS s) (h0 : ∃ j, ct s j = true) (e : cvF w r S s fx fy part fst 36 = some m) : ∃ f, f < fb_ct S 64 ∧ m.testBit f = true ∧ ∀ j, j < f → m.testBit j = false := by
  obtain ⟨⟨o1, _⟩, o3⟩ := (cvF_t 36).1 m e
  obtain ⟨j, hj⟩ := h0
  have j36 := hs j hj
  have c0 := o1 j j36 hj
  have tb : m.testBit (cvi w r S fx fy part j).toNat = true := (o3 _).mpr ⟨j, j36, hj, by omega⟩
  obtain ⟨k, k1, k2, k3⟩ := ct_first (f := fun b => m.testBit b) _ tb
  exact ⟨k, tb_in (cvF_n2 e) k2, k2, k3⟩
def FTp : List (Nat × Nat) := [(3, 70), (2, 71), (2, 72), (0, 3294), (1, 3306), (2, 73)]
theorem sq_tellPlaces (hd : jd w h r S) (hj : jr w h r S z) (hk : rdc K C M A z) (hs : shps K C Z A) (h24 : fb_ct S 64 ≤ 24) (kk : ∀ z' P f, fr FTp z z' → rrow S P f z' → (∀ p, p < P → rsrc w h r S K C A (f p)) → (∀ k i c, k < K → rdn w h r S C A P f k i c) → (∀ c, c < 64 → ct (tq_fl z' 3306) c = S c) → (∀ k, k < K → tq_ai z' 73 k = nI (M k)) → P ≤ 3072 → Q (.inl none) z') : wm_X12_tellPlaces z Q := by
  have hw8 := hd.2.1
  have hh8 := hd.2.2.2.1
  have hK := hk.2.1
  unfold wm_X12_tellPlaces
  intro z1 e1 z2 e2
  have f2 : fr FTp z z2 := by
    rw [e2]
    refine fr_sfl (by decide) ?_
    rw [e1]; exact fr_sfi (by decide) fr_r
  have r2 : rrow S 0 (fun _ => (0, 0, 0, 0)) z2 := ⟨by rw [e2, e1]; rfl, fun p hp => absurd hp (Nat.not_lt_zero _), fun p hp => absurd hp (Nat.not_lt_zero _), fun p p' _ hp => absurd hp (Nat.not_lt_zero _)⟩
  unfold wc_X12_tellPlaces_12
  refine lp_inv (fun c st => ∃ z', st = (nI c, z') ∧ fr FTp z z' ∧ rrow S 0 (fun _ => (0, 0, 0, 0)) z' ∧ ∀ b, b < 64 → ct (tq_fl z' 3306) b = (decide (b < c) && S b)) 64 ?_ ⟨z2, rfl, f2, r2, fun b _ => by
    rw [e2, rw_fle, ct_0, decide_eq_false (Nat.not_lt_zero b)]; rfl⟩
  rintro c st hc ⟨z3, rfl, f3, r3, b3⟩ B hB
  simp only
  unfold wb_X12_tellPlaces_12
  rw [i_64, i_le (by omega) (by omega)]
  refine ⟨fun q => ?_, fun q => ⟨i_in (by omega) (by omega), ?_⟩⟩
  rotate_left
  · have j3 := jr_f f3 (by decide) (by decide) (by decide) (by decide) hj
    have nx : ∀ v : Int64, (∀ b, b < 64 → ct v b = (decide (b = c) && S b)) → wc_X12_tellPlaces_39 (fun b1 z => B (b1, z)) Q (nI c) v (tq_fl z3 3306) z3 := by
      intro v hv
      unfold wc_X12_tellPlaces_39
      intro z4 e4 v2 e5
      rw [i_1, i_add] at e5
      subst e5
      have g4 : fr [(1, 3306)] z3 z4 := by rw [e4]; exact fr_sfl (by decide) fr_r
      refine hB (by omega) _ ⟨z4, rfl, fr_t f3 (fr_m (by decide) g4), rrow_f g4 (by decide) (by decide) (by decide) (by decide) r3, fun b hb => ?_⟩
      rw [e4, rw_fle, ct_or, b3 b hb, hv b hb]
      by_cases u : b = c
      · rw [decide_eq_true u, decide_eq_true (show b < c + 1 by omega), Bool.true_and]
        cases S b <;> simp
      · rw [decide_eq_false u, Bool.false_and, Bool.or_false]
        congr 1
        exact decide_eq_decide.mpr (by omega)
    rw [i_cl (by omega), j3.2 c (by omega)]
    refine ⟨fun u => nx _ (fun b hb => ?_), fun u => nx _ (fun b hb => ?_)⟩
    · rw [bi_0] at u
      rw [ct_0]
      by_cases v : b = c
      · rw [v, u, Bool.and_false]
      · rw [decide_eq_false v, Bool.false_and]
    · rw [bi_n] at u
      rw [ct_bit b (by omega)]
      by_cases v : b = c
      · rw [v, u, Bool.and_true]
      · rw [decide_eq_false v, Bool.false_and]
  have c64 : c = 64 := by omega
  subst c64
  have brd : ∀ b, b < 64 → ct (tq_fl z3 3306) b = S b := fun b hb => by rw [b3 b hb, decide_eq_true hb, Bool.true_and]
  clear hB B
  unfold wc_X12_tellPlaces_49 wc_X12_tellPlaces_51
  refine lp_inv (fun k st => ∃ z' P f, st = (nI k, z') ∧ fr (FAd ++ [(2, 73)]) z3 z' ∧ rrow S P f z' ∧ P ≤ 64 * (8 * k) ∧ (∀ p, p < P → rsrc w h r S K C A (f p)) ∧ (∀ k' i c, k' < k → rdn w h r S C A P f k' i c) ∧ ∀ k', k' < k → tq_ai z' 73 k' = nI (M k')) K ?_ ⟨z3, 0, fun _ => (0, 0, 0, 0), rfl, fr_r, r3, by omega, fun p hp => absurd hp (Nat.not_lt_zero _), fun k' _ _ a => absurd a (Nat.not_lt_zero _), fun k' a => absurd a (Nat.not_lt_zero _)⟩
  rintro k st hkK ⟨z4, P, f, rfl, f4, r4, l4, s4, d4, m4⟩ B hB
  simp only
  have g4 : fr FTp z z4 := fr_t f3 (fr_m (by decide) f4)
  have k4 := rdc_f g4 (by decide) (by decide) (by decide) (by decide) hk
  unfold wb_X12_tellPlaces_51
  rw [k4.1, i_le (by omega) (by omega)]
  refine ⟨fun q => ?_, fun q => ⟨i_in (by omega) (by omega), i_in (by omega) (by omega), fun z5 e5 => ?_⟩⟩
  · have : k = K := by omega
    subst this
    exact kk z4 P f g4 r4 s4 d4 (fun c hc => by rw [fr_fl f4 (by decide)]; exact brd c hc) m4 (by omega)
  have kK : k < K := by omega
  obtain ⟨⟨C1, C2⟩, M1, A1⟩ := k4.2.2 k kK
  rw [i_cl (by omega), M1] at e5
  have f45 : fr [(2, 73)] z4 z5 := by rw [e5]; exact fr_sai (by decide) fr_r
  have f5 : fr (FAd ++ [(2, 73)]) z3 z5 := fr_t f4 (fr_m (by decide) f45)
  have r5 := rrow_f f45 (by decide) (by decide) (by decide) (by decide) r4
  have m5 : ∀ k', k' < k + 1 → tq_ai z5 73 k' = nI (M k') := fun k' hk' => by
    rw [e5, rw_aie, rw_upd]
    by_cases u : k' = k
    · rw [if_pos u, u]
    · rw [if_neg u]; exact m4 k' (by omega)
  unfold wc_X12_tellPlaces_73
  refine lp_inv (fun i st => ∃ z' P f, st = (nI i, z') ∧ fr FAd z5 z' ∧ rrow S P f z' ∧ P ≤ 64 * (8 * k + i) ∧ (∀ p, p < P → rsrc w h r S K C A (f p)) ∧ (∀ k' i' c, (k' < k ∨ (k' = k ∧ i' < i)) → rdn w h r S C A P f k' i' c)) (C k) ?_ ⟨z5, P, f, rfl, fr_r, r5, by omega, s4, fun k' i' c a => d4 k' i' c (by omega)⟩
  rintro i st hi ⟨z6, P6, f6', rfl, f6, r6, l6, s6, d6⟩ B2 hB2
  simp only
  have g6 : fr FTp z z6 := fr_t f3 (fr_t (fr_m (by decide) f5) (fr_m (by decide) f6))
  have k6 := rdc_f g6 (by decide) (by decide) (by decide) (by decide) hk
  obtain ⟨⟨C3, _⟩, _, A3⟩ := k6.2.2 k kK
  unfold wb_X12_tellPlaces_73
  rw [i_cl (by omega), C3, i_le (by omega) (by omega)]
  refine ⟨i_in (by omega) (by omega), fun q2 => ?_, fun q2 => ?_⟩
  · unfold wc_X12_tellPlaces_168
    intro v e
    rw [i_1, i_add] at e
    subst e
    refine hB kK _ ⟨z6, P6, f6', rfl, fr_t f5 (fr_m (by decide) f6), r6, by omega, s6, fun k' i' c a => ?_, fun k' hk' => by rw [fr_ai f6 (by decide)]; exact m5 k' hk'⟩
    by_cases u : k' < k ∨ (k' = k ∧ i' < i)
    · exact d6 k' i' c u
    · intro b
      have : k' = k := by omega
      rw [this] at b
      exact absurd b (by omega)
  have iC : i < C k := by omega
  obtain ⟨w1, w2, w3⟩ := hs k kK i iC
  have ex : ∃ j, ct (A (8 * k + i)) j = true := ⟨_, (nmz_0 w2).2⟩
  unfold wc_X12_tellPlaces_85
  refine lp_inv (fun c st => ∃ z' P f, st = (nI c, z') ∧ fr FAd z5 z' ∧ rrow S P f z' ∧ P ≤ 64 * (8 * k + i) + c ∧ (∀ p, p < P → rsrc w h r S K C A (f p)) ∧ (∀ k' i' c', (k' < k ∨ (k' = k ∧ (i' < i ∨ (i' = i ∧ c' < c)))) → rdn w h r S C A P f k' i' c')) 64 ?_ ⟨z6, P6, f6', rfl, f6, r6, by omega, s6, fun k' i' c' a => d6 k' i' c' (by omega)⟩
  rintro c st hc ⟨z7, P7, f7', rfl, f7, r7, l7, s7, d7⟩ B3 hB3
  simp only
  have g7 : fr FTp z z7 := fr_t f3 (fr_t (fr_m (by decide) f5) (fr_m (by decide) f7))
  have j7 := jr_f g7 (by decide) (by decide) (by decide) (by decide) hj
  have k7 := rdc_f g7 (by decide) (by decide) (by decide) (by decide) hk
  obtain ⟨_, _, A7⟩ := k7.2.2 k kK
  unfold wb_X12_tellPlaces_85
  rw [i_64, i_le (by omega) (by omega)]
  refine ⟨fun q3 => ?_, fun q3 => ?_⟩
  · unfold wc_X12_tellPlaces_162
    intro v e
    rw [i_1, i_add] at e
    subst e
    refine hB2 iC _ ⟨z7, P7, f7', rfl, f7, r7, by omega, s7, fun k' i' c' a => ?_⟩
    by_cases u : k' < k ∨ (k' = k ∧ (i' < i ∨ (i' = i ∧ c' < c)))
    · exact d7 k' i' c' u
    · intro _ b; exact absurd b (by omega)
  have c64 : c < 64 := by omega
  have nx : ∀ z8 P8 f8, fr FAd z5 z8 → rrow S P8 f8 z8 → P8 ≤ 64 * (8 * k + i) + (c + 1) → (∀ p, p < P8 → rsrc w h r S K C A (f8 p)) → (∀ y, (∃ p, p < P7 ∧ f7' p = y) → ∃ p, p < P8 ∧ f8 p = y) → rdn w h r S C A P8 f8 k i c → wc_X12_tellPlaces_156 (fun b1 z => B (b1, z)) (fun b2 z => B2 (b2, z)) (fun b3 z => B3 (b3, z)) Q (nI k) (nI i) (nI c) z8 := by
    intro z8 P8 f8 g8 r8 l8 s8 y8 d8
    unfold wc_X12_tellPlaces_156
    intro v e
    rw [i_1, i_add] at e
    subst e
    refine hB3 c64 _ ⟨z8, P8, f8, rfl, g8, r8, l8, s8, fun k' i' c' a => ?_⟩
    by_cases u : k' = k ∧ i' = i ∧ c' = c
    · rw [u.1, u.2.1, u.2.2]; exact d8
    · intro b1 b2 b3 b4 m b5
      obtain ⟨p, p1, p2, p3⟩ := d7 k' i' c' (by omega) b1 b2 b3 b4 m b5
      obtain ⟨p', q1, q2⟩ := y8 _ ⟨p, p1, rfl⟩
      exact ⟨p', q1, by rw [q2]; exact p2, by rw [q2]; exact p3⟩
  have no : (c % 8 < w → c / 8 < h → ∀ m, cvF w r S (A (8 * k + i)) (c % 8) (c / 8) 0 0 36 ≠ some m) → wc_X12_tellPlaces_156 (fun b1 z => B (b1, z)) (fun b2 z => B2 (b2, z)) (fun b3 z => B3 (b3, z)) Q (nI k) (nI i) (nI c) z7 := fun hn => nx z7 P7 f7' f7 r7 (by omega) s7 (fun y hy => hy) (fun _ _ b3 b4 m b5 => absurd b5 (hn b3 b4 m))
  have q8 : nI c - nI c / (8 : Int32) * (8 : Int32) = nI (c % 8) := by rw [i_8]; exact pk_rem (by omega) (by omega) (by omega)
  have d8 : nI c / (8 : Int32) = nI (c / 8) := by rw [i_8]; exact pk_div (by omega) (by omega) (by omega)
  have z0 : ∀ z8, wc_X12_tellPlaces_156 (fun b1 z => B (b1, z)) (fun b2 z => B2 (b2, z)) (fun b3 z => B3 (b3, z)) Q (nI k) (nI i) (nI c) z8 → wc_X12_tellPlaces_140 (fun b1 z => B (b1, z)) (fun b2 z => B2 (b2, z)) (fun b3 z => B3 (b3, z)) Q (nI k) (nI i) (nI c) 0 z8 := by
    intro z8 u
    unfold wc_X12_tellPlaces_140
    exact ⟨fun _ => u, fun e => absurd rfl e⟩
  rw [q8, d8, j7.1.1, j7.1.2.1, i_le (by omega) (by omega), i_le (by omega) (by omega)]
  refine ⟨fun q4 => ?_, fun q4 => ⟨fun q5 => ?_, fun q5 => ?_⟩⟩
  · unfold wc_X12_tellPlaces_139
    exact z0 _ (no (fun a => absurd a (by omega)))
  · unfold wc_X12_tellPlaces_139
    exact z0 _ (no (fun _ a => absurd a (by omega)))
  rw [show (8 : Int32) * nI k + nI i = nI (8 * k + i) by rw [i_8, pk_mul, i_add], i_cl (by omega), A7 i iC]
  refine ⟨i_in (by omega) (by omega), ?_⟩
  refine sq_laid hd j7 w1 (by omega) (by omega) h24 (fun hn => ⟨_, rfl, z0 _ (no (fun _ _ m e => by rw [hn] at e; cases e))⟩) (fun m X hm hX => ⟨_, rfl, ?_⟩)
  obtain ⟨f, fn, ft, fl⟩ := cvF_fst w1 ex hm
  have mn := cvF_n2 hm
  obtain ⟨x, hx⟩ : ∃ x : plc, x = (f, k, m, 0) := ⟨_, rfl⟩
  have xb : rpb S x := by rw [hx]; exact ⟨fn, by show k < 6; omega, mn, ft, fl, rfl⟩
  have xs : rsrc w h r S K C A x := by rw [hx]; exact ⟨kK, i, c, iC, c64, by omega, by omega, hm⟩
  have x1 : x.2.1 = k := by rw [hx]
  have x2 : x.2.2.1 = m := by rw [hx]
  have X0 : ¬ X = 0 := fun e => by
    have := exP_k hX fn
    rw [e, ct_0, ft] at this; cases this
  unfold wc_X12_tellPlaces_140
  refine ⟨fun e => absurd e X0, fun _ => ?_⟩
  rw [← x1]
  refine sq_addPlace r7 (by omega) xb (by rw [x2]; exact hX) (fun hp => ⟨rfl, ?_⟩) (fun z8 q f8 hq r8 => ⟨rfl, ?_⟩)
  · rw [x1]
    refine nx z7 P7 f7' f7 r7 (by omega) s7 (fun y hy => hy) (fun _ _ _ _ m' e => ?_)
    rw [hm] at e
    obtain ⟨p, p1, p2⟩ := hp
    exact ⟨p, p1, by rw [p2, x1], by rw [p2, x2]; exact Option.some.inj e⟩
  · rw [x1]
    refine nx z8 (P7 + 1) (insF f7' q x) (fr_t f7 f8) r8 (by omega) (fun p hp => ?_) (fun y hy => (ins_mem hq y).mpr (Or.inr hy)) (fun _ _ _ _ m' e => ?_)
    · unfold insF
      split
      · exact s7 _ (by omega)
      · split
        · exact xs
        · exact s7 _ (by omega)
    · rw [hm] at e
      refine ⟨q, by omega, ?_⟩
      have ei : insF f7' q x q = x := by unfold insF; rw [if_neg (Nat.lt_irrefl _), if_pos rfl]
      rw [ei]
      exact ⟨x1, by rw [x2]; exact Option.some.inj e⟩
end RTP
