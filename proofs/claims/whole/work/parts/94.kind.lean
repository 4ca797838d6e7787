/-! ===== a new kind, on both sides ===== -/
section KIND
variable {z : tq_S} {Q : tq_O → tq_S → Prop} {T : Int64} {n : Nat} {C : Nat → Nat}
theorem sq_takeShapes {made : Nat} {many : Int32} (hn : n < 6) (en : tq_fi z 1477 = nI n) (eT : tq_fl z 1476 = T) (kk : ∀ z', fr [(2, 25), (2, 26), (2, 27), (0, 1477), (1, 1476), (0, 1478)] z z' → (∀ k, tq_ai z' 25 k = if k = n then nI made else tq_ai z 25 k) → (∀ k, tq_ai z' 26 k = if k = n then many else tq_ai z 26 k) → (∀ k, tq_ai z' 27 k = if k = n then nI (fb_ct (ct T) 64) else tq_ai z 27 k) → tq_fi z' 1477 = nI (n + 1) → tq_fl z' 1476 = 0 → tq_fi z' 1478 = tq_fi z 1478 + 1 → Q (.inl none) z') : wm_X8_takeShapes (nI made) many z Q := by
  unfold wm_X8_takeShapes
  rw [en, i_6, i_le (by omega) (by omega)]
  refine ⟨fun h => absurd h (by omega), fun _ => ⟨i_in hn (by omega), fun z1 e1 => ?_⟩⟩
  rw [i_cl (by omega)] at e1
  have n1 : tq_fi z1 1477 = nI n := by rw [e1]; exact en
  rw [n1]
  refine ⟨i_in hn (by omega), fun z2 e2 => ?_⟩
  rw [i_cl (by omega)] at e2
  have n2 : tq_fi z2 1477 = nI n := by rw [e2]; exact n1
  have t2 : tq_fl z2 1476 = T := by rw [e2, e1]; exact eT
  rw [n2, t2]
  refine sp_bc ⟨_, rfl, i_in hn (by omega), fun z5 e5 z6 e6 z7 e7 z8 e8 => ?_⟩
  rw [i_cl (by omega)] at e5
  have f1 : fr [(2, 25), (2, 26), (2, 27), (0, 1477), (1, 1476), (0, 1478)] z z1 := by rw [e1]; exact fr_sai (by decide) fr_r
  have f2 : fr [(2, 25), (2, 26), (2, 27), (0, 1477), (1, 1476), (0, 1478)] z z2 := by rw [e2]; exact fr_sai (by decide) f1
  have f5 : fr [(2, 25), (2, 26), (2, 27), (0, 1477), (1, 1476), (0, 1478)] z z5 := by rw [e5]; exact fr_sai (by decide) f2
  have f6 : fr [(2, 25), (2, 26), (2, 27), (0, 1477), (1, 1476), (0, 1478)] z z6 := by rw [e6]; exact fr_sfi (by decide) f5
  have f7 : fr [(2, 25), (2, 26), (2, 27), (0, 1477), (1, 1476), (0, 1478)] z z7 := by rw [e7]; exact fr_sfl (by decide) f6
  have f8 : fr [(2, 25), (2, 26), (2, 27), (0, 1477), (1, 1476), (0, 1478)] z z8 := by rw [e8]; exact fr_sfi (by decide) f7
  have n5 : tq_fi z5 1477 = nI n := by rw [e5]; exact n2
  refine kk z8 f8 ?_ ?_ ?_ ?_ ?_ ?_
  · intro k; rw [e8, e7, e6, e5, e2, e1]; rfl
  · intro k
    have : tq_ai z8 26 k = upd (tq_ai z1 26) n many k := by rw [e8, e7, e6, e5, e2]; rfl
    rw [this, e1]; rfl
  · intro k
    have : tq_ai z8 27 k = upd (tq_ai z2 27) n (nI (fb_ct (ct T) 64)) k := by rw [e8, e7, e6, e5]; rfl
    rw [this, e2, e1]; rfl
  · have : tq_fi z8 1477 = tq_fi z5 1477 + 1 := by rw [e8, e7, e6]; rfl
    rw [this, n5, i_1, i_add]
  · rw [e8, e7]; rfl
  · rw [e8, e7, e6, e5, e2, e1]; rfl
/-- how many pieces of a kind a call asks for -/
def kmn (a3 : Int32) (m : Nat) : Prop := 1 ≤ m ∧ m ≤ 8 ∧ a3 = nI m
theorem fi_18 {a : Int32} : fi (1 : Int32).toInt (8 : Int32).toInt a = true ↔ ∃ m, kmn a m := by
  unfold fi
  have h8 : (8 : Int32).toInt = 8 := by decide +kernel
  rw [i_t1, h8]
  simp only [Bool.and_eq_true, decide_eq_true_eq]
  constructor
  · rintro ⟨q1, q2⟩
    obtain ⟨n, hn, rfl⟩ := i_ex (x := a) (by rw [nu_lt, i_z]; omega)
    rw [i_ti hn] at q1 q2
    exact ⟨n, by omega, by omega, rfl⟩
  · rintro ⟨n, hn, hn2, rfl⟩
    rw [i_ti (by omega)]
    omega
def FKd : List (Nat × Nat) := [(3, 24), (2, 25), (2, 26), (2, 27), (0, 1477), (1, 1476), (0, 1478)]
theorem sc_kind {a1 a2 a3 : Int32} (hn : n ≤ 6) (en : tq_fi z 1477 = nI n) (hC : ∀ k, k < n → tq_ai z 25 k = nI (C k) ∧ C k ≤ 8) (eT : tq_fl z 1476 = T) (hT : wS T) (h6 : fb_ct (ct T) 64 ≤ 6) (k0 : (∀ m, ¬ kmn a3 m) → Q (.inr 1) z) (k1 : ∀ m, kmn a3 m → (fb_ct (ct T) 64 < 3 ∨ n = 6) → Q (.inr 2) z) (k2 : ∀ m, kmn a3 m → 3 ≤ fb_ct (ct T) 64 → n < 6 → kbad (tq_al z 24) C n T (mean a1 a2) 8 → ∀ z', fr FMk z z' → (∀ j, j < 8 * n → tq_al z' 24 j = tq_al z 24 j) → Q (.inr 4) z') (k3 : ∀ m, kmn a3 m → 3 ≤ fb_ct (ct T) 64 → n < 6 → ¬ kbad (tq_al z 24) C n T (mean a1 a2) 8 → ∀ z', fr FKd z z' → (∀ j, j < 8 * n → tq_al z' 24 j = tq_al z 24 j) → (∀ i, i < (pl (shf T) (mean a1 a2) 8).1 → tq_al z' 24 (8 * n + i) = (pl (shf T) (mean a1 a2) 8).2 i) → (∀ k, tq_ai z' 25 k = if k = n then nI (pl (shf T) (mean a1 a2) 8).1 else tq_ai z 25 k) → (∀ k, tq_ai z' 26 k = if k = n then nI m else tq_ai z 26 k) → (∀ k, tq_ai z' 27 k = if k = n then nI (fb_ct (ct T) 64) else tq_ai z 27 k) → tq_fi z' 1477 = nI (n + 1) → tq_fl z' 1476 = 0 → tq_fi z' 1478 = tq_fi z 1478 + 1 → Q (.inl (some (.int (nI (pl (shf T) (mean a1 a2) 8).1)))) z') : wm_X11_kind a1 a2 a3 z Q := by
  have pm := pl_l (f := shf T) (me := mean a1 a2) 8
  have p1 : 1 ≤ (pl (shf T) (mean a1 a2) 8).1 := pl_1 (f := shf T) (me := mean a1 a2) (by unfold mean; simp) 7
  unfold wm_X11_kind
  refine sq_isFrom ⟨_, rfl, fun h1 => ?_, fun h1 => ?_⟩
  · rw [bi_n, fi_18] at h1
    obtain ⟨m, hm⟩ := h1
    unfold wm_X8_canBeMade
    rw [eT]
    refine sp_bc ⟨_, rfl, fun h3 => ⟨_, rfl, fun h => absurd rfl h, fun _ => k1 m hm (Or.inl ?_)⟩, fun h3 => ?_⟩
    · rw [i_3, i_lt (by omega) (by omega)] at h3; exact h3
    · rw [i_3, i_lt (by omega) (by omega)] at h3
      rw [en, i_6, i_le (by omega) (by omega)]
      refine ⟨fun h4 => ⟨_, rfl, fun h => absurd rfl h, fun _ => k1 m hm (Or.inr (by omega))⟩, fun h4 => ⟨_, rfl, fun _ => ?_, fun h => absurd h (by decide +kernel)⟩⟩
      have ex : ∃ i, ct T i = true := by
        obtain ⟨i, _, e⟩ := fb_ct_pos.mp (by omega : 0 < fb_ct (ct T) 64)
        exact ⟨i, e⟩
      refine sq_makeShapes (by omega) en hC eT hT h6 ex (fun hb z' f' h' => ⟨_, rfl, fun h => absurd rfl h, fun _ => k2 m hm (by omega) (by omega) hb z' f' h'⟩) (fun hb z' f' h' g' => ⟨_, rfl, fun _ => ?_, fun h => ?_⟩)
      · rw [hm.2.2]
        refine sq_takeShapes (T := T) (n := n) (by omega) ((fr_fi (k := 1477) f' (by decide)).trans en) ((fr_fl (k := 1476) f' (by decide)).trans eT) (fun z7 f7 g25 g26 g27 g1 g2 g3 => ⟨rfl, ?_⟩)
        have f7' : fr FKd z z7 := fr_t (fr_m (by decide) f') (fr_m (by decide) f7)
        refine k3 m hm (by omega) (by omega) hb z7 f7' (fun j hj => by rw [fr_al (k := 24) f7 (by decide)]; exact h' j hj) (fun i hi => by rw [fr_al (k := 24) f7 (by decide)]; exact g' i hi) ?_ ?_ ?_ g1 g2 ?_
        · intro k; rw [g25, fr_ai (k := 25) f' (by decide)]
        · intro k; rw [g26, fr_ai (k := 26) f' (by decide)]
        · intro k; rw [g27, fr_ai (k := 27) f' (by decide)]
        · rw [g3, fr_fi (k := 1478) f' (by decide)]
      · rw [show (0 : Int32) = nI 0 from rfl, i_eq (by omega) (by omega)] at h
        omega
  · refine k0 (fun m hm => ?_)
    rw [bi_0, fi_18.mpr ⟨m, hm⟩] at h1
    cases h1
theorem sq_isKnown {lo hi : Nat} {s : Int64} (hl : lo ≤ hi) (h6 : hi ≤ 6) (hC : ∀ k, lo ≤ k → k < hi → tq_ai z 68 k = nI (C k) ∧ C k ≤ 8) (kk : ∀ b : Bool, (b = true ↔ ∃ k, lo ≤ k ∧ k < hi ∧ ∃ i, i < C k ∧ tq_al z 69 (8 * k + i) = s) → Q (.inl (some (.int (bi b)))) z) : wm_X12_isKnown s (nI lo) (nI hi) z Q := by
  obtain ⟨d, rfl⟩ : ∃ d, hi = lo + d := ⟨hi - lo, by omega⟩
  unfold wm_X12_isKnown wc_X12_isKnown_6
  refine lp_inv (fun m st => ∃ b : Bool, st = (bi b, nI (lo + m), z) ∧ (b = true ↔ ∃ k, lo ≤ k ∧ k < lo + m ∧ ∃ i, i < C k ∧ tq_al z 69 (8 * k + i) = s)) d ?_ ⟨false, rfl, ⟨fun h => (by cases h), fun ⟨k, a, b, _⟩ => absurd a (by omega)⟩⟩
  rintro m st hm ⟨b, rfl, hb⟩ B hB
  simp only
  unfold wb_X12_isKnown_6
  rw [i_le (a := lo + d) (b := lo + m) (by omega) (by omega)]
  refine ⟨fun q => ⟨bi_z, kk b ?_⟩, fun q => ?_⟩
  · rw [hb, show m = d by omega]
  · have hc := hC (lo + m) (by omega) (by omega)
    unfold wc_X12_isKnown_16
    refine lp_inv (fun i st => ∃ b' : Bool, st = (bi b', nI i, z) ∧ (b' = true ↔ b = true ∨ ∃ j, j < i ∧ tq_al z 69 (8 * (lo + m) + j) = s)) (C (lo + m)) ?_ ⟨b, rfl, ⟨Or.inl, fun h => h.elim id (fun ⟨j, hj, _⟩ => absurd hj (by omega))⟩⟩
    rintro i st hi' ⟨b', rfl, hb'⟩ B2 hB2
    simp only
    unfold wb_X12_isKnown_16
    rw [i_cl (by omega), hc.1, i_le (by omega) (by omega), i_8, pk_mul, i_add, i_cl (by omega)]
    refine ⟨i_in (by omega) (by omega), fun q2 => ?_, fun q2 => ⟨i_in (by omega) (by omega), fun u => ?_, fun u => ?_⟩⟩
    · unfold wc_X12_isKnown_62
      intro v e
      rw [i_1, i_add] at e
      subst e
      refine hB (by omega) _ ⟨b', rfl, ?_⟩
      rw [hb', hb]
      constructor
      · rintro (⟨k, a1, a2, a3⟩ | ⟨j, hj, e⟩)
        · exact ⟨k, a1, by omega, a3⟩
        · exact ⟨lo + m, by omega, by omega, j, by omega, e⟩
      · rintro ⟨k, a1, a2, j, hj, e⟩
        by_cases q3 : k = lo + m
        · subst q3; exact Or.inr ⟨j, by omega, e⟩
        · exact Or.inl ⟨k, a1, by omega, j, hj, e⟩
    · unfold wc_X12_isKnown_53
      intro v e v2 e2
      rw [i_1, i_add] at e2
      have ev : v = bi b' := by
        rw [e]; cases b' <;> decide +kernel
      rw [ev, e2]
      refine hB2 (by omega) _ ⟨b', rfl, ?_⟩
      rw [hb']
      refine or_congr Iff.rfl ⟨fun ⟨j, hj, e⟩ => ⟨j, by omega, e⟩, fun ⟨j, hj, e⟩ => ⟨j, ?_, e⟩⟩
      have : j ≠ i := fun q3 => u (by rw [← q3]; exact e)
      omega
    · unfold wc_X12_isKnown_53
      intro v e v2 e2
      rw [i_1, i_add] at e2
      have ev : v = bi true := by
        rw [e]; cases b' <;> decide +kernel
      rw [ev, e2]
      exact hB2 (by omega) _ ⟨true, rfl, ⟨fun _ => Or.inr ⟨i, by omega, u⟩, fun _ => rfl⟩⟩
end KIND
