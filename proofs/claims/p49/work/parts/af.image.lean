section IMG
variable {w h : Nat} {r : Bool} {S : Nat → Bool} {z : tq_S} {Q : tq_O → tq_S → Prop} {K n P : Nat} {C M Z : Nat → Nat} {A : Nat → Int64} {f : Nat → plc} {st : Nat → Nat}
/-- where a motion takes the cell of a number -/
noncomputable def mvx (w h : Nat) (S : Nat → Bool) (mo i : Nat) : Nat := fb_ct S (8 * (bmv w h mo (kth S i)).2 + (bmv w h mo (kth S i)).1)
noncomputable def imgF (w h : Nat) (S : Nat → Bool) (mo m : Nat) : Nat → Nat
  | 0 => 0
  | i + 1 => if m.testBit i = true then imgF w h S mo m i ||| 2 ^ mvx w h S mo i else imgF w h S mo m i
theorem mvx_lt (hd : jd w h r S) {mo i : Nat} (hg : gok w h S mo = true) (hi : i < fb_ct S 64) : mvx w h S mo i < fb_ct S 64 ∧ S (8 * (bmv w h mo (kth S i)).2 + (bmv w h mo (kth S i)).1) = true := by
  obtain ⟨k1, k2, _⟩ := kth_ok (p := S) hi
  obtain ⟨g1, g2⟩ := gok_t.mp hg
  have b := bmv_b hd k2 g1
  have hw8 := hd.2.1
  have hh8 := hd.2.2.2.1
  have e := g2 _ k1 k2
  rw [ho_n (by omega) (by omega)] at e
  simp only [Bool.and_eq_true] at e
  exact ⟨ct_in (by omega) e.2, e.2⟩
theorem imgF_t {mo m : Nat} : ∀ i b, (imgF w h S mo m i).testBit b = true ↔ ∃ j, j < i ∧ m.testBit j = true ∧ mvx w h S mo j = b
  | 0, b => ⟨fun e => (by unfold imgF at e; rw [Nat.zero_testBit] at e; cases e), fun ⟨j, hj, _⟩ => absurd hj (Nat.not_lt_zero _)⟩
  | i + 1, b => by
    have ih := imgF_t (mo := mo) (m := m) i b
    unfold imgF
    by_cases u : m.testBit i = true
    · rw [if_pos u, tb_set, Bool.or_eq_true, decide_eq_true_eq, ih]
      constructor
      · rintro (⟨j, a, b', c⟩ | e)
        · exact ⟨j, by omega, b', c⟩
        · exact ⟨i, by omega, u, e.symm⟩
      · rintro ⟨j, a, b', c⟩
        by_cases x : j = i
        · rw [x] at c; exact Or.inr c.symm
        · exact Or.inl ⟨j, by omega, b', c⟩
    · rw [if_neg u, ih]
      constructor
      · rintro ⟨j, a, b', c⟩
        exact ⟨j, by omega, b', c⟩
      · rintro ⟨j, a, b', c⟩
        by_cases x : j = i
        · rw [x] at b'; exact absurd b' u
        · exact ⟨j, by omega, b', c⟩
theorem imgF_lt (hd : jd w h r S) {mo m : Nat} (hg : gok w h S mo = true) : ∀ i, i ≤ fb_ct S 64 → imgF w h S mo m i < 2 ^ fb_ct S 64
  | 0, _ => Nat.two_pow_pos _
  | i + 1, hi => by
    have ih := imgF_lt hd (m := m) hg i (by omega)
    unfold imgF
    split
    · exact or_lt ih (mvx_lt hd hg (by omega)).1
    · exact ih
/-- the place that a motion makes of one -/
noncomputable def imO (w h : Nat) (S : Nat → Bool) (P : Nat) (f : Nat → plc) (mo i : Nat) : Option Nat := @dite _ (∃ q, q < P ∧ (f q).2.1 = (f i).2.1 ∧ (f q).2.2.1 = imgF w h S mo (f i).2.2.1 (fb_ct S 64)) (Classical.propDecidable _) (fun e => some (Classical.choose e)) (fun _ => none)
theorem imO_s {mo i q : Nat} (e : imO w h S P f mo i = some q) : q < P ∧ (f q).2.1 = (f i).2.1 ∧ (f q).2.2.1 = imgF w h S mo (f i).2.2.1 (fb_ct S 64) := by
  unfold imO at e
  by_cases ex : ∃ q, q < P ∧ (f q).2.1 = (f i).2.1 ∧ (f q).2.2.1 = imgF w h S mo (f i).2.2.1 (fb_ct S 64)
  · rw [dif_pos ex] at e
    rw [← Option.some.inj e]
    exact Classical.choose_spec ex
  · rw [dif_neg ex] at e; cases e
theorem imO_n {mo i : Nat} (e : imO w h S P f mo i = none) : ¬ ∃ q, q < P ∧ (f q).2.1 = (f i).2.1 ∧ (f q).2.2.1 = imgF w h S mo (f i).2.2.1 (fb_ct S 64) := fun ex => by
  unfold imO at e
  rw [dif_pos ex] at e; cases e
theorem cells_m {x : plc} (hx : pcb x) : lN (pcE x) &&& (16777215 : Int64) = lN x.2.2.1 := by
  obtain ⟨h0, h1, h2, h3⟩ := hx
  rw [show (16777215 : Int64) = lN (2 ^ 24 - 1) from rfl, fb_maskL]
  congr 1
  unfold pcE
  omega
theorem pcE_k {x : plc} (hx : pcb x) : ((Int64.toUInt64 (lN (pcE x))) >>> ((Int32.toInt64 (32 : Int32)).toUInt64 &&& Int64.toUInt64 63)).toInt64 = lN x.2.1 := by
  have p35 := pcE_lt hx
  obtain ⟨h0, h1, h2, h3⟩ := hx
  rw [i_32, l_shrN (by omega) (by omega)]
  congr 1
  unfold pcE
  omega
theorem sq_imageOf {mo i : Nat} (hd : jd w h r S) (hn : n = fb_ct S 64) (hx : exr n P f st z) (hs : ∀ p, p < P → (f p).2.2.1 < 2 ^ n ∧ (f p).2.2.1.testBit (f p).1 = true ∧ ∀ j, j < (f p).1 → (f p).2.2.1.testBit j = false) (hne : ∀ p p', p < P → p' < P → (f p).2.1 = (f p').2.1 → (f p).2.2.1 = (f p').2.2.1 → p = p') (hm : mo < 8) (hg : gok w h S mo = true) (hv : mvd w h S mo z) (hi : i < P) (kk : Q (.inl (some (.long (match imO w h S P f mo i with | none => -1 | some q => lN (pcE (f q)))))) z) : wm_X4_imageOf (lN (pcE (f i))) (nI (f i).2.1) (nI mo) z Q := by
  have n24 := hx.2.1
  have P12 := hx.2.2.1
  obtain ⟨a29, pb⟩ := hx.2.2.2.1 i hi
  obtain ⟨s1, s2, s3⟩ := hs i hi
  have p35 := pcE_lt pb
  obtain ⟨b0, b1, b2, b3⟩ := id pb
  unfold wm_X4_imageOf wc_X4_imageOf_6
  refine lp_inv (fun j st' => st' = (lN (imgF w h S mo (f i).2.2.1 j), nI j, z)) n ?_ rfl
  rintro j st' hj rfl B hB
  simp only
  unfold wb_X4_imageOf_6
  rw [hx.1, i_le (by omega) (by omega)]
  refine ⟨fun q => ?_, fun q => ?_⟩
  rotate_left
  · have nx : wc_X4_imageOf_46 (fun b5 b7 z => B (b5, b7, z)) Q (lN (pcE (f i))) (nI (f i).2.1) (nI mo) (lN (imgF w h S mo (f i).2.2.1 (j + 1))) (nI j) z := by
      unfold wc_X4_imageOf_46
      intro v e
      rw [i_1, i_add] at e
      subst e
      exact hB (by omega) _ rfl
    have j24 : j < 24 := by omega
    rw [ct_t1 (by omega), pcE_c pb j24]
    have ix : nI mo * (24 : Int32) + nI j = nI (24 * mo + j) := by rw [show (24 : Int32) = nI 24 from rfl, pk_mul, i_add, Nat.mul_comm]
    rw [ix, i_cl (by omega), hv j (by omega)]
    refine ⟨fun u => ?_, fun u => ⟨i_in (by omega) (by omega), fun v e => ?_⟩⟩
    · have e : imgF w h S mo (f i).2.2.1 (j + 1) = imgF w h S mo (f i).2.2.1 j := by
        show (if (f i).2.2.1.testBit j = true then _ else _) = _
        rw [if_neg (by rw [u]; exact Bool.false_ne_true)]
      rw [e] at nx
      exact nx
    · have u : (f i).2.2.1.testBit j = true := by simpa using u
      have e2 : imgF w h S mo (f i).2.2.1 (j + 1) = imgF w h S mo (f i).2.2.1 j ||| 2 ^ mvx w h S mo j := by
        show (if (f i).2.2.1.testBit j = true then _ else _) = _
        rw [if_pos u]
      have mv := (mvx_lt hd hg (i := j) (by omega)).1
      have mv64 : mvx w h S mo j < 64 := by omega
      rw [show fb_ct S (8 * (bmv w h mo (kth S j)).2 + (bmv w h mo (kth S j)).1) = mvx w h S mo j from rfl, l_pwN mv64, fb_orL, ← e2] at e
      subst e
      exact nx
  have jn : j = n := by omega
  subst jn
  clear hB B
  obtain ⟨I, hI⟩ : ∃ I, I = imgF w h S mo (f i).2.2.1 j := ⟨_, rfl⟩
  have In : I < 2 ^ j := by
    rw [hI, hn]
    exact imgF_lt hd hg _ (Nat.le_refl _)
  have I0 : ∃ b, I.testBit b = true := by
    refine ⟨mvx w h S mo (f i).1, ?_⟩
    rw [hI, imgF_t]
    exact ⟨(f i).1, tb_in s1 s2, s2, rfl⟩
  obtain ⟨b, hb⟩ := I0
  obtain ⟨l, l1, l2, l3⟩ := ct_first (f := fun b => I.testBit b) b hb
  have ln := tb_in In l2
  rw [← hI]
  unfold wc_X4_imageOf_52
  refine sp_bc ⟨_, rfl, ?_⟩
  have cnt : fb_ct (ct ((lN I ^^^ (-1 : Int64)) &&& (lN I - 1))) 64 = l := by
    have lo := fun (i : Nat) (hi : i < 64) => (ct_lo (a := lN I) (l := l) (by rw [ct_lN, decide_eq_true (by omega), Bool.true_and]; exact l2) (fun j hj => by rw [ct_lN, decide_eq_true (by omega), Bool.true_and]; exact l3 j hj) hi).1
    rw [fb_ct_cong lo]
    have := ct_cut (p := fun _ => true) (k := l) (by omega)
    rw [fb_ct_all.mpr (fun _ _ => rfl)] at this
    refine Eq.trans (fb_ct_cong fun k _ => ?_) this
    rw [Bool.true_and]
  rw [cnt]
  refine sp_min _ ?_
  have mn : (if (23 : Int32) < nI l then (23 : Int32) else nI l) = nI l := by
    refine if_neg ?_
    rw [show (23 : Int32) = nI 23 from rfl, i_lt (by omega) (by omega)]; omega
  rw [mn]
  refine ⟨_, rfl, i_in (by omega) (by omega), fun v5 e5 => ?_⟩
  obtain ⟨so1, so2⟩ := hx.2.2.2.2.1 l (by omega)
  obtain ⟨sp1, sp2⟩ := hx.2.2.2.2.1 (l + 1) (by omega)
  rw [i_cl (by omega), so1] at e5
  subst e5
  have one : ∀ q, q < P → (f q).2.2.1 = I → (f q).1 = l := fun q hq e => by
    obtain ⟨t1, t2, t3⟩ := hs q hq
    rw [e] at t2 t3
    rcases Nat.lt_trichotomy (f q).1 l with u | u | u
    · have := l3 _ u
      rw [t2] at this; cases this
    · exact u
    · have l2 : I.testBit l = true := l2
      rw [t3 _ u] at l2; cases l2
  unfold wc_X4_imageOf_82
  refine lp_inv (fun d st' => st' = (nI (st l + d), z) ∧ ∀ q, st l ≤ q → q < st l + d → ¬ ((f q).2.1 = (f i).2.1 ∧ (f q).2.2.1 = I)) (P - st l) ?_ ⟨rfl, fun q a c => absurd c (by omega)⟩
  rintro d st' hd' ⟨rfl, hno⟩ B hB
  simp only
  unfold wb_X4_imageOf_82
  rw [i_1, i_add, i_cl (by omega), sp1, i_le (by omega) (by omega)]
  refine ⟨i_in (by omega) (by omega), fun q => ?_, fun q => ?_⟩
  · cases t : imO w h S P f mo i with
    | none => rw [t] at kk; exact kk
    | some q' =>
      obtain ⟨t1, t2, t3⟩ := imO_s t
      rw [← hn, ← hI] at t3
      have fl := one q' t1 t3
      have a := hx.2.2.2.2.2 l (by omega) q' t1
      have c := hx.2.2.2.2.2 (l + 1) (by omega) q' t1
      have c1 := c.mpr (by omega)
      have a1 : ¬ q' < st l := fun u => by have := a.mp u; omega
      exact absurd ⟨t2, t3⟩ (hno q' (by omega) (by omega))
  have dP : st l + d < P := by omega
  obtain ⟨q29, qb⟩ := hx.2.2.2.1 (st l + d) dP
  have nx : ¬ ((f (st l + d)).2.1 = (f i).2.1 ∧ (f (st l + d)).2.2.1 = I) → wc_X4_imageOf_137 (fun b8 z => B (b8, z)) Q (nI (f i).2.1) (lN I) (nI l) (nI (st l + d)) z := by
    intro hnot
    unfold wc_X4_imageOf_137
    intro v e
    rw [i_1, i_add] at e
    subst e
    refine hB (by omega) _ ⟨rfl, fun q a c => ?_⟩
    by_cases u : q = st l + d
    · rw [u]; exact hnot
    · exact hno q a (by omega)
  obtain ⟨c0, c1, c2, c3⟩ := id qb
  rw [i_cl (by omega), q29, cells_m qb, pcE_k qb, i_to (by omega), fb_lN_inj (by omega) (by have := Nat.pow_le_pow_right (n := 2) (by decide) n24; omega), fb_lN_inj (by omega) (by omega)]
  refine ⟨i_in (by omega) (by omega), fun u => nx (fun e => u e.2), fun u => ⟨i_in (by omega) (by omega), fun u2 => nx (fun e => u2 e.1), fun u2 => ?_⟩⟩
  unfold wc_X4_imageOf_129
  rw [i_cl (by omega), q29]
  refine ⟨i_in (by omega) (by omega), ?_⟩
  cases t : imO w h S P f mo i with
  | none => exact absurd ⟨_, dP, u2, by rw [u, hI, hn]⟩ (imO_n t)
  | some q' =>
    obtain ⟨t1, t2, t3⟩ := imO_s t
    rw [← hn, ← hI] at t3
    have : q' = st l + d := hne q' _ t1 dP (by rw [t2, u2]) (by rw [t3, u])
    rw [t] at kk
    rw [this] at kk
    exact kk
end IMG
