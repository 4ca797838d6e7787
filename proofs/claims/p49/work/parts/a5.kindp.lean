section CKN
variable {w h : Nat} {r : Bool} {S : Nat → Bool} {z : tq_S} {Q : tq_O → tq_S → Prop} {K : Nat} {C M Z : Nat → Nat} {A : Nat → Int64}
theorem l_pwN {k : Nat} (hk : k < 64) : (1 : Int64) <<< ((Int32.toInt64 (nI k)) &&& 63) = lN (2 ^ k) := ct_ext fun i hi => by
  rw [ct_bit i hk, ct_lN, decide_eq_true hi, Bool.true_and, Nat.testBit_two_pow]
  by_cases q : i = k
  · rw [decide_eq_true q, decide_eq_true q.symm]
  · rw [decide_eq_false q, decide_eq_false (fun e => q e.symm)]
theorem l_shlN {n s : Nat} (hs : s < 64) : (lN n) <<< ((Int32.toInt64 (nI s)) &&& 63) = lN (2 ^ s * n) := ct_ext fun i hi => by
  rw [ct_shl _ i hs, ct_lN, ct_lN, decide_eq_true hi, Bool.true_and, Bool.true_and, Nat.testBit_two_pow_mul, decide_eq_true (show i - s < 64 by omega), Bool.true_and]
theorem l_shrN {n s : Nat} (hs : s < 64) (hn : n < 2 ^ 63) : ((Int64.toUInt64 (lN n)) >>> ((Int32.toInt64 (nI s)).toUInt64 &&& Int64.toUInt64 63)).toInt64 = lN (n / 2 ^ s) := ct_ext fun i hi => by
  rw [ct_shr _ i hs, ct_lN, ct_lN, decide_eq_true hi, Bool.true_and, Nat.testBit_div_two_pow, Nat.add_comm i s]
  by_cases q : s + i < 64
  · rw [decide_eq_true q, Bool.true_and]
  · rw [decide_eq_false q, Bool.false_and, Nat.testBit_lt_two_pow (Nat.lt_of_lt_of_le hn (Nat.pow_le_pow_right (by decide) (by omega)))]
/-- the kinds as the class has them -/
def kdc (K : Nat) (C M Z : Nat → Nat) (A : Nat → Int64) (z : tq_S) : Prop := tq_fi z 1477 = nI K ∧ K ≤ 6 ∧ ∀ k, k < K → (tq_ai z 25 k = nI (C k) ∧ C k ≤ 8) ∧ (tq_ai z 26 k = nI (M k) ∧ M k ≤ 8) ∧ (tq_ai z 27 k = nI (Z k) ∧ 3 ≤ Z k ∧ Z k ≤ 6) ∧ ∀ i, i < C k → tq_al z 24 (8 * k + i) = A (8 * k + i)
/-- the shapes are shapes -/
def shps (K : Nat) (C Z : Nat → Nat) (A : Nat → Int64) : Prop := ∀ k, k < K → ∀ i, i < C k → wS (A (8 * k + i)) ∧ nmz (bsh (A (8 * k + i))) ∧ fb_ct (ct (A (8 * k + i))) 64 = Z k
theorem kdc_f {F : List (Nat × Nat)} {z' : tq_S} (f : fr F z z') (h1 : (0, 1477) ∉ F) (h2 : (2, 25) ∉ F) (h3 : (2, 26) ∉ F) (h4 : (2, 27) ∉ F) (h5 : (3, 24) ∉ F) (h : kdc K C M Z A z) : kdc K C M Z A z' := by
  obtain ⟨a, b, c⟩ := h
  refine ⟨by rw [fr_fi f h1]; exact a, b, fun k hk => ?_⟩
  rw [fr_ai f h2, fr_ai f h3, fr_ai f h4, fr_al f h5]
  exact c k hk
noncomputable def motB (C : Nat → Nat) (A : Nat → Int64) (k : Nat) (s : Int64) (m : Nat) : Bool := @decide (∃ i, i < C k ∧ A (8 * k + i) = shf s m) (Classical.propDecidable _)
theorem motB_t {k : Nat} {s : Int64} {m : Nat} : motB C A k s m = true ↔ ∃ i, i < C k ∧ A (8 * k + i) = shf s m := by
  unfold motB
  exact @decide_eq_true_iff _ (Classical.propDecidable _)
theorem sq_motionsOf {g0 k : Nat} {s : Int64} (hk : kdc K C M Z A z) (hkK : k < K) (h1 : tq_fi z 1806 = nI g0) (h2 : g0 < 256) (h3 : ∀ b, g0.testBit b = grB w h r S b) (hs : wS s) (h0 : ∃ i, ct s i = true) (kk : ∀ g, g < 256 → (∀ b, g.testBit b = (grB w h r S b && motB C A k s b)) → Q (.inl (some (.long (lN (2 ^ 24 * g))))) z) : wm_X4_motionsOf (nI k) s z Q := by
  obtain ⟨k1, k2, k3⟩ := hk
  obtain ⟨⟨c1, c2⟩, _, _, c3⟩ := k3 k hkK
  unfold wm_X4_motionsOf wc_X4_motionsOf_6
  refine lp_inv (fun m st => ∃ g, st = (lN (2 ^ 24 * g), nI m, z) ∧ g < 256 ∧ ∀ b, g.testBit b = (decide (b < m) && grB w h r S b && motB C A k s b)) 8 ?_ ⟨0, rfl, by omega, fun b => by rw [Nat.zero_testBit, decide_eq_false (Nat.not_lt_zero b)]; rfl⟩
  rintro m st hm ⟨g, rfl, gl, gb⟩ B hB
  simp only
  unfold wb_X4_motionsOf_6
  rw [i_8, i_le (by omega) (by omega)]
  refine ⟨fun q => ?_, fun q => ?_⟩
  · have : m = 8 := by omega
    subst this
    refine kk g gl fun b => ?_
    rw [gb]
    by_cases u : b < 8
    · rw [decide_eq_true u, Bool.true_and]
    · have : grB w h r S b = false := by unfold grB; rw [decide_eq_false (show ¬ b = 0 by omega), decide_eq_false u]; rfl
      rw [this, Bool.and_false, Bool.false_and]
  have m8 : m < 8 := by omega
  have nx : ∀ g', g' < 256 → (∀ b, g'.testBit b = (decide (b < m + 1) && grB w h r S b && motB C A k s b)) → wc_X4_motionsOf_54 (fun b4 b6 z => B (b4, b6, z)) Q (nI k) s (lN (2 ^ 24 * g')) (nI m) z := by
    intro g' gl' gb'
    unfold wc_X4_motionsOf_54
    intro v e
    rw [i_1, i_add] at e
    subst e
    exact hB m8 _ ⟨g', rfl, gl', gb'⟩
  have one : ∀ b, b ≠ m → (decide (b < m + 1)) = decide (b < m) := fun b hb => by
    by_cases u : b < m
    · rw [decide_eq_true u, decide_eq_true (by omega)]
    · rw [decide_eq_false u, decide_eq_false (by omega)]
  have same : (grB w h r S m && motB C A k s m) = false → ∀ b, g.testBit b = (decide (b < m + 1) && grB w h r S b && motB C A k s b) := fun e b => by
    rw [gb]
    by_cases u : b = m
    · rw [u, Bool.and_assoc, Bool.and_assoc, e, Bool.and_false, Bool.and_false]
    · rw [one b u]
  rw [h1, i_utb (by omega) (by omega), h3]
  refine ⟨fun q2 => nx g gl (same (by rw [q2]; rfl)), fun q2 => ?_⟩
  have q2 : grB w h r S m = true := by simpa using q2
  refine sq_cMoved hs h0 m8 (fun t ht => ⟨_, rfl, ?_⟩)
  have et : t = shf s m := nzs_e ht
  refine sq_isShapeOf (by omega) c1 c2 (fun hn => ⟨_, rfl, fun _ => nx g gl (same ?_), fun e => absurd rfl e⟩) (fun hn => ⟨_, rfl, fun e => absurd e (by decide +kernel), fun _ v ev => ?_⟩)
  · cases u : motB C A k s m
    · rw [Bool.and_false]
    · obtain ⟨i, i1, i2⟩ := motB_t.mp u
      exact absurd ⟨i, i1, by rw [c3 i i1, i2, et]⟩ hn
  · have u : motB C A k s m = true := by
      obtain ⟨i, i1, i2⟩ := hn
      exact motB_t.mpr ⟨i, i1, by rw [← c3 i i1, i2, et]⟩
    rw [show (24 : Int32) + nI m = nI (24 + m) by rw [show (24 : Int32) = nI 24 from rfl, i_add], l_pwN (by omega), fb_orL] at ev
    have e2 : 2 ^ 24 * g ||| 2 ^ (24 + m) = 2 ^ 24 * (g ||| 2 ^ m) := Nat.eq_of_testBit_eq fun b => by
      rw [Nat.testBit_or, Nat.testBit_two_pow_mul, Nat.testBit_two_pow_mul, Nat.testBit_or, Nat.testBit_two_pow, Nat.testBit_two_pow]
      by_cases x : 24 ≤ b
      · rw [decide_eq_true x, Bool.true_and, Bool.true_and]
        congr 1
        exact decide_eq_decide.mpr (by omega)
      · rw [decide_eq_false x, Bool.false_and, Bool.false_and, Bool.false_or]
        exact decide_eq_false (by omega)
    rw [e2] at ev
    subst ev
    refine nx _ (or_lt (n := 8) gl m8) fun b => ?_
    rw [tb_set, gb]
    by_cases x : b = m
    · rw [x, decide_eq_false (Nat.lt_irrefl m), decide_eq_true (Nat.lt_succ_self m), q2, u, decide_eq_true rfl]; rfl
    · rw [one b x, decide_eq_false x, Bool.or_false]
/-- where a place comes from -/
def srcs (w h : Nat) (r : Bool) (S : Nat → Bool) (K : Nat) (C : Nat → Nat) (A : Nat → Int64) (x : plc) : Prop := x.2.1 < K ∧ x.1 < fb_ct S 64 ∧ ∃ i part, i < C x.2.1 ∧ part < 6 ∧ ct (A (8 * x.2.1 + i)) part = true ∧ cvF w r S (A (8 * x.2.1 + i)) (kth S x.1 % 8) (kth S x.1 / 8) part x.1 36 = some x.2.2.1 ∧ ∀ b, x.2.2.2.testBit b = (grB w h r S b && motB C A x.2.1 (A (8 * x.2.1 + i)) b)
noncomputable def fcd (w : Nat) (r : Bool) (S : Nat → Bool) (A : Nat → Int64) (c : Nat) : Nat × Nat := (c / 24 / 8, (cvF w r S (A (c / 24)) (kth S (c % 24) % 8) (kth S (c % 24) / 8) (kth (ct (A (c / 24))) 0) 0 36).getD 0)
theorem nmz_0 {s : Int64} (hn : nmz (bsh s)) : kth (ct s) 0 < 6 ∧ ct s (kth (ct s) 0) = true := by
  obtain ⟨x, h1, h2, _, _, h3⟩ := hn.2.2
  rw [show (6 * 0 + x).toNat = x.toNat by omega] at h3
  obtain ⟨k, k1, k2, k3⟩ := ct_first (f := ct s) x.toNat h3
  have : fb_ct (ct s) k = 0 := fb_ct_zero.mpr (fun j hj => k3 j hj)
  have e := kth_of (p := ct s) (i := k) (by omega) k2
  rw [this] at e
  rw [e]
  exact ⟨by omega, k2⟩
theorem src_cd (hd : jd w h r S) (hC : ∀ k, k < K → C k ≤ 8) (hK : K ≤ 6) (hs : shps K C Z A) (h24 : fb_ct S 64 ≤ 24) {x : plc} (hx : srcs w h r S K C A x) : ∃ c, c < 1152 ∧ fcd w r S A c = (x.2.1, x.2.2.1) := by
  obtain ⟨xK, xn, i, part, hi, hp, hb, e, -⟩ := hx
  have hc8 := hC _ xK
  obtain ⟨s1, s2, s3⟩ := hs _ xK i hi
  obtain ⟨p6, pb⟩ := nmz_0 s2
  obtain ⟨⟨o1, o2⟩, o3⟩ := (cvF_t 36).1 _ e
  have c0 := o1 _ (by omega) pb
  have cb := cix_b S (cpx w r (kth S x.1 % 8) part (kth (ct (A (8 * x.2.1 + i))) 0 % 6)) ((kth S x.1 / 8 + kth (ct (A (8 * x.2.1 + i))) 0 / 6 : Nat) : Int) h24
  obtain ⟨k0, hk0⟩ : ∃ k0 : Nat, cvi w r S (kth S x.1 % 8) (kth S x.1 / 8) part (kth (ct (A (8 * x.2.1 + i))) 0) = (k0 : Int) := ⟨_, (Int.toNat_of_nonneg (by omega)).symm⟩
  have k24 : k0 < 24 := by
    unfold cvi at hk0
    omega
  obtain ⟨c, c1, c2, c3, c4, c5⟩ := cix_to hk0
  refine ⟨24 * (8 * x.2.1 + i) + k0, by omega, ?_⟩
  unfold fcd
  rw [show (24 * (8 * x.2.1 + i) + k0) / 24 = 8 * x.2.1 + i by omega, show (24 * (8 * x.2.1 + i) + k0) % 24 = k0 by omega, show (8 * x.2.1 + i) / 8 = x.2.1 by omega]
  have ek : kth S k0 = c := by rw [← c5]; exact kth_of c1 c2
  rw [ek, cvF_sh p6 c1 c2 (by rw [hk0, c5]) e]
  rfl
theorem src_le (hd : jd w h r S) (hC : ∀ k, k < K → C k ≤ 8) (hK : K ≤ 6) (hs : shps K C Z A) (h24 : fb_ct S 64 ≤ 24) {P : Nat} {f : Nat → plc} (hf : ∀ p, p < P → srcs w h r S K C A (f p)) (hne : ∀ p p', p < P → p' < P → (f p).2.1 = (f p').2.1 → (f p).2.2.1 = (f p').2.2.1 → p = p') : P ≤ 1152 := by
  have ch : ∀ p, ∃ c, p < P → c < 1152 ∧ fcd w r S A c = ((f p).2.1, (f p).2.2.1) := fun p => by
    by_cases q : p < P
    · obtain ⟨c, c1, c2⟩ := src_cd hd hC hK hs h24 (hf p q)
      exact ⟨c, fun _ => ⟨c1, c2⟩⟩
    · exact ⟨0, fun e => absurd e q⟩
  have := cinj (N := 1152) (P := fun _ => true) (R := fun _ => true) (g := fun p => Classical.choose (ch p)) (n := P) (fun p hp _ => ⟨(Classical.choose_spec (ch p) hp).1, rfl⟩) (fun p p' hp hp' _ _ e => by
    have a := (Classical.choose_spec (ch p) hp).2
    have b := (Classical.choose_spec (ch p') hp').2
    have e : Classical.choose (ch p) = Classical.choose (ch p') := e
    rw [e, b] at a
    exact hne p p' hp hp' (congrArg Prod.fst a).symm (congrArg Prod.snd a).symm)
  rw [fb_ct_all.mpr (fun _ _ => rfl)] at this
  exact Nat.le_trans this (fb_ct_le _ _)
theorem src_f {x : plc} (hd : jd w h r S) (hx : srcs w h r S K C A x) : x.2.2.1.testBit x.1 = true ∧ ∀ j, j < x.1 → x.2.2.1.testBit j = false := by
  obtain ⟨xK, xn, i, part, hi, hp, hb, e, -⟩ := hx
  exact cvF_low hd hp xn hb e
theorem src_1 {x y : plc} (hd : jd w h r S) (hx : srcs w h r S K C A x) (hy : srcs w h r S K C A y) (e : x.2.2.1 = y.2.2.1) : x.1 = y.1 := by
  obtain ⟨a1, a2⟩ := src_f hd hx
  obtain ⟨b1, b2⟩ := src_f hd hy
  rw [e] at a1 a2
  rcases Nat.lt_trichotomy x.1 y.1 with u | u | u
  · rw [b2 _ u] at a1; cases a1
  · exact u
  · rw [a2 _ u] at b1; cases b1
/-- the class's row of places, and where they come from -/
def prs (w h : Nat) (r : Bool) (S : Nat → Bool) (K : Nat) (C : Nat → Nat) (A : Nat → Int64) (P : Nat) (f : Nat → plc) (z : tq_S) : Prop := prow P f z ∧ ∀ p, p < P → srcs w h r S K C A (f p)
theorem prs_ne (hd : jd w h r S) {P : Nat} {f : Nat → plc} (h1 : prs w h r S K C A P f z) : ∀ p p', p < P → p' < P → (f p).2.1 = (f p').2.1 → (f p).2.2.1 = (f p').2.2.1 → p = p' := by
  have lt : ∀ p p', p < p' → p' < P → (f p).2.1 = (f p').2.1 → (f p).2.2.1 = (f p').2.2.1 → False := fun p p' a b e1 e2 => by
    have e0 := src_1 hd (h1.2 p (by omega)) (h1.2 p' b) e2
    rcases h1.1.2.2.2 p p' a b with u | ⟨_, u | ⟨_, u⟩⟩
    · omega
    · omega
    · rw [e2] at u; exact ahd_i _ u
  intro p p' hp hp' e1 e2
  rcases Nat.lt_trichotomy p p' with u | u | u
  · exact (lt p p' u hp' e1 e2).elim
  · exact u
  · exact (lt p' p u hp e1.symm e2.symm).elim
end CKN
