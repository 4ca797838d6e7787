/-! ===== heaps: the class's products and divisions ===== -/
def hpJ (c i : Nat) : Nat → Nat → Nat
  | 0, n => n
  | j + 1, n => hpJ c i j n * (c + i + j + 1)
def hpI (b c : Nat) : Nat → Nat
  | 0 => 1
  | i + 1 => hpJ c i b (hpI b c i)
def hdJ (i : Nat) : Nat → Nat → Nat
  | 0, n => n
  | j + 1, n => hdJ i j n / (i + j + 1)
def hdI (b n : Nat) : Nat → Nat
  | 0 => n
  | i + 1 => hdJ i b (hdI b n i)
def hps (a b c : Nat) : Nat := hdI b (hpI b c a) a
theorem hpJ_le {c i n : Nat} (hc : c ≤ 8) (hi : i < 8) : ∀ j, j ≤ 8 → hpJ c i j n ≤ n * 24 ^ j
  | 0, _ => by rw [Nat.pow_zero, Nat.mul_one]; exact Nat.le_refl _
  | j + 1, hj => by
    have h1 := hpJ_le (n := n) hc hi j (by omega)
    show hpJ c i j n * (c + i + j + 1) ≤ _
    rw [Nat.pow_succ, ← Nat.mul_assoc]
    exact Nat.mul_le_mul h1 (by omega)
theorem hpI_le {b c : Nat} (hb : b ≤ 8) (hc : c ≤ 8) : ∀ i, i ≤ 8 → hpI b c i ≤ 24 ^ (b * i)
  | 0, _ => Nat.le_refl _
  | i + 1, hi => by
    have h1 := hpI_le hb hc i (by omega)
    have h2 := hpJ_le (n := hpI b c i) hc (by omega : i < 8) b hb
    show hpJ c i b (hpI b c i) ≤ _
    rw [Nat.mul_succ, Nat.pow_add]
    exact Nat.le_trans h2 (Nat.mul_le_mul_right _ h1)
theorem hp_24 {k : Nat} (hk : k ≤ 64) : 24 ^ k < 1000000000 ^ 33 := Nat.lt_of_le_of_lt (Nat.pow_le_pow_right (by omega) hk) (by decide +kernel)
theorem hpJ_lt {b c i j : Nat} (hb : b ≤ 8) (hc : c ≤ 8) (hi : i < 8) (hj : j ≤ b) : hpJ c i j (hpI b c i) < 1000000000 ^ 33 := by
  have h1 := hpI_le hb hc i (by omega)
  have h2 := hpJ_le (n := hpI b c i) hc hi j (by omega)
  have h3 : hpJ c i j (hpI b c i) ≤ 24 ^ (b * i + j) := by
    rw [Nat.pow_add]
    exact Nat.le_trans h2 (Nat.mul_le_mul_right _ h1)
  refine Nat.lt_of_le_of_lt h3 (hp_24 ?_)
  have : b * i ≤ 8 * 7 := Nat.mul_le_mul hb (by omega)
  omega
def h3 (A B C : Int32) (a b c : Nat) : Prop := 1 ≤ a ∧ a ≤ 8 ∧ 1 ≤ b ∧ b ≤ 8 ∧ 1 ≤ c ∧ c ≤ 8 ∧ A = nI a ∧ B = nI b ∧ C = nI c
theorem fi_ex {l u : Nat} {x : Int32} (h1 : l ≤ u) (h2 : u < 2147483648) : fi (nI l).toInt (nI u).toInt x = true ↔ ∃ n : Nat, l ≤ n ∧ n ≤ u ∧ x = nI n := by
  unfold fi
  rw [i_ti (by omega), i_ti h2]
  simp only [Bool.and_eq_true, decide_eq_true_eq]
  constructor
  · rintro ⟨q1, q2⟩
    obtain ⟨n, hn, rfl⟩ := i_ex (x := x) (by rw [nu_lt, i_z]; omega)
    rw [i_ti hn] at q1 q2
    exact ⟨n, by omega, by omega, rfl⟩
  · rintro ⟨n, q1, q2, rfl⟩
    rw [i_ti (by omega)]
    omega
section HEAPS
variable {z : tq_S} {Q : tq_O → tq_S → Prop} {A B C : Int32}
theorem sq_areSides (k0 : (∀ a b c, ¬ h3 A B C a b c) → Q (.inl (some (.int 0))) z) (k1 : ∀ a b c, h3 A B C a b c → Q (.inl (some (.int 1))) z) : wm_X11_areSides A B C z Q := by
  have key : ∀ x : Int32, fi (1 : Int32).toInt (8 : Int32).toInt x = true ↔ ∃ n : Nat, 1 ≤ n ∧ n ≤ 8 ∧ x = nI n := fun x => fi_ex (l := 1) (u := 8) (by omega) (by omega)
  unfold wm_X11_areSides
  refine sq_isFrom ⟨_, rfl, fun h1 => k0 (fun a b c h => ?_), fun h1 => ?_⟩
  · rw [bi_0] at h1
    rw [(key A).mpr ⟨a, h.1, h.2.1, h.2.2.2.2.2.2.1⟩] at h1; cases h1
  · refine sq_isFrom ⟨_, rfl, fun h2 => k0 (fun a b c h => ?_), fun h2 => ?_⟩
    · rw [bi_0] at h2
      rw [(key B).mpr ⟨b, h.2.2.1, h.2.2.2.1, h.2.2.2.2.2.2.2.1⟩] at h2; cases h2
    · refine sq_isFrom ⟨_, rfl, fun h3 => k0 (fun a b c h => ?_), fun h3 => ?_⟩
      · rw [bi_0] at h3
        rw [(key C).mpr ⟨c, h.2.2.2.2.1, h.2.2.2.2.2.1, h.2.2.2.2.2.2.2.2⟩] at h3; cases h3
      · rw [bi_n] at h1 h2 h3
        obtain ⟨a, a1, a2, a3⟩ := (key A).mp h1
        obtain ⟨b, b1, b2, b3⟩ := (key B).mp h2
        obtain ⟨c, c1, c2, c3⟩ := (key C).mp h3
        exact k1 a b c ⟨a1, a2, b1, b2, c1, c2, a3, b3, c3⟩
theorem sq_putHeaps {a b c : Nat} (ha : a ≤ 8) (hb : b ≤ 8) (hc : c ≤ 8) (k : ∀ z', fr [(0, 2945), (0, 2946), (2, 47)] z z' → bw (hps a b c) z' → tq_fi z' 2946 = 0 → Q (.inl none) z') : wm_X0_putHeaps (nI a) (nI b) (nI c) z Q := by
  unfold wm_X0_putHeaps
  rw [l_1]
  refine sq_putW (by omega) (fun z1 f1 b1 n1 => ⟨rfl, ?_⟩)
  unfold wc_X0_putHeaps_8
  refine lp_inv (fun i s => ∃ z', s = (nI (i + 1), z') ∧ fr [(0, 2945), (0, 2946), (2, 47)] z z' ∧ bw (hpI b c i) z' ∧ tq_fi z' 2946 = 0) a ?_ ⟨z1, rfl, f1, b1, n1⟩
  rintro i s hi ⟨z2, rfl, f2, b2, n2⟩ B1 hB1
  simp only
  unfold wb_X0_putHeaps_8
  rw [i_lt (by omega) (by omega)]
  refine ⟨fun h1 => ?_, fun h1 => ?_⟩
  · have : i = a := by omega
    subst this
    unfold wc_X0_putHeaps_50 wc_X0_putHeaps_53
    refine lp_inv (fun x s => ∃ z', s = (nI (x + 1), z') ∧ fr [(0, 2945), (0, 2946), (2, 47)] z z' ∧ bw (hdI b (hpI b c i) x) z' ∧ tq_fi z' 2946 = 0) i ?_ ⟨z2, rfl, f2, b2, n2⟩
    rintro x s hx ⟨z3, rfl, f3, b3, n3⟩ B2 hB2
    simp only
    unfold wb_X0_putHeaps_53
    rw [i_lt (by omega) (by omega)]
    refine ⟨fun h2 => ?_, fun h2 => ?_⟩
    · have : x = i := by omega
      subst this
      exact k z3 f3 b3 n3
    · have hB2 := hB2 (by omega)
      unfold wc_X0_putHeaps_62
      refine lp_inv (fun j s => ∃ z', s = (nI (j + 1), z') ∧ fr [(0, 2945), (0, 2946), (2, 47)] z z' ∧ bw (hdJ x j (hdI b (hpI b c i) x)) z' ∧ tq_fi z' 2946 = 0) b ?_ ⟨z3, rfl, f3, b3, n3⟩
      rintro j s hj ⟨z4, rfl, f4, b4, n4⟩ B3 hB3
      simp only
      unfold wb_X0_putHeaps_62
      rw [i_lt (by omega) (by omega)]
      refine ⟨fun h3 => ?_, fun h3 => ?_⟩
      · have : j = b := by omega
        subst this
        unfold wc_X0_putHeaps_85
        intro v e
        rw [i_1, i_add] at e
        exact hB2 _ ⟨z4, by rw [e], f4, b4, n4⟩
      · have e1 : nI (x + 1) + nI (j + 1) - (1 : Int32) = nI (x + j + 1) := by
          rw [i_add, i_1, pk_sub (by omega)]
          congr 1; omega
        rw [e1]
        refine sq_divide (by omega) (by omega) b4 (fun z5 f5 b5 => ⟨rfl, fun v e => ?_⟩)
        rw [i_1, i_add] at e
        exact hB3 (by omega) _ ⟨z5, by rw [e], fr_t f4 (fr_m (by decide) f5), b5, (fr_fi f5 (by decide)).trans n4⟩
  · have hB1 := hB1 (by omega)
    unfold wc_X0_putHeaps_17
    refine lp_inv (fun j s => ∃ z', s = (nI (j + 1), z') ∧ fr [(0, 2945), (0, 2946), (2, 47)] z z' ∧ bw (hpJ c i j (hpI b c i)) z' ∧ tq_fi z' 2946 = 0) b ?_ ⟨z2, rfl, f2, b2, n2⟩
    rintro j s hj ⟨z4, rfl, f4, b4, n4⟩ B3 hB3
    simp only
    unfold wb_X0_putHeaps_17
    rw [i_lt (by omega) (by omega)]
    refine ⟨fun h3 => ?_, fun h3 => ?_⟩
    · have : j = b := by omega
      subst this
      unfold wc_X0_putHeaps_44
      intro v e
      rw [i_1, i_add] at e
      exact hB1 _ ⟨z4, by rw [e], f4, b4, n4⟩
    · have e1 : nI c + nI (i + 1) + nI (j + 1) - (1 : Int32) = nI (c + i + j + 1) := by
        rw [i_add, i_add, i_1, pk_sub (by omega)]
        congr 1; omega
      rw [e1, i_to (by omega), l_0]
      have lt : hpJ c i j (hpI b c i) * (c + i + j + 1) + 0 < 1000000000 ^ 34 := by
        have h4 := hpJ_lt (b := b) (c := c) (i := i) (j := j) hb hc (by omega) hj
        rw [Nat.pow_succ, Nat.add_zero]
        exact Nat.mul_lt_mul'' h4 (by omega)
      refine sq_timesP (by omega) (by omega) (by omega) b4 lt (fun z5 f5 b5 => ⟨rfl, fun v e => ?_⟩)
      rw [i_1, i_add] at e
      exact hB3 (by omega) _ ⟨z5, by rw [e], fr_t f4 (fr_m (by decide) f5), b5, (fr_fi f5 (by decide)).trans n4⟩
theorem sc_heaps (k0 : (∀ a b c, ¬ h3 A B C a b c) → Q (.inr 1) z) (k1 : ∀ a b c, h3 A B C a b c → ∀ z', fr FT z z' → ctx z' (tn false (hps a b c)) → Q (.inl (some (.int (nI (tn false (hps a b c)).length)))) z') : wm_X11_heaps A B C z Q := by
  unfold wm_X11_heaps
  refine sq_areSides (fun h => ⟨_, rfl, fun q => absurd rfl q, fun _ => k0 h⟩) (fun a b c h => ⟨_, rfl, fun _ => ?_, fun q => absurd q (by decide +kernel)⟩)
  have k2 := k1 a b c h
  obtain ⟨a1, a2, b1, b2, c1, c2, rfl, rfl, rfl⟩ := h
  refine sq_putHeaps a2 b2 c2 (fun z1 f1 b1 n1 => ⟨rfl, ?_⟩)
  refine sq_sayW b1 n1 (fun z2 f2 t2 => ⟨_, rfl, ?_⟩)
  exact k2 z2 (fr_t (fr_m (by decide) f1) (fr_m (by decide) f2)) t2
end HEAPS
