/-! ===== the reference's shapes; whether the typed cells hang together ===== -/
section SHR
variable {z : tq_S} {Q : tq_O → tq_S → Prop} {s : Int64}
theorem ct_s1 (h : wS s) {k : Nat} (hk : k < 64) : (s >>> ((Int32.toInt64 (nI k)) &&& 63)) &&& (1 : Int64) = 1 ↔ ct s k = true := by
  constructor
  · intro e
    have := congrArg (fun a => ct a 0) e
    rw [ct_and1, ct_sar s hk h, ct_1] at this
    simpa using this
  · intro e
    refine ct_ext (fun i hi => ?_)
    rw [ct_and1, ct_sar s hk h, ct_1]
    by_cases q : i = 0
    · subst q; simp [e]
    · simp [q]
theorem ct_mvb (h : wS s) {n e : Nat} (hn : n < 64) (he : e < 64) (j : Nat) : ct (((s >>> ((Int32.toInt64 (nI n)) &&& 63)) &&& (1 : Int64)) <<< ((Int32.toInt64 (nI e)) &&& 63)) j = (decide (j = e) && ct s n) := by
  rw [ct_shl _ j he, ct_and1, ct_sar s hn h]
  by_cases q : j = e
  · subst q
    simp [he]
  · rw [decide_eq_false q]
    by_cases q1 : e ≤ j
    · rw [decide_eq_false (by omega : ¬ j - e = 0)]; simp
    · rw [decide_eq_false q1]; simp
theorem sq_rMoved (hs : wS s) (h0 : ∃ i, ct s i = true) (k : ∀ t, nz (bsh s) t → Q (.inl (some (.long t))) z) : wm_X12_moved s z Q := by
  unfold wm_X12_moved wc_X12_moved_9
  refine lp_inv (fun n st => ∃ dx dy, st = (nI dx, nI dy, nI n, z) ∧ dx ≤ 6 ∧ dy ≤ 6 ∧ (dx = 6 ∨ ∃ i, i < n ∧ ct s i = true ∧ i % 6 = dx) ∧ (dy = 6 ∨ ∃ i, i < n ∧ ct s i = true ∧ i / 6 = dy) ∧ ∀ i, i < n → ct s i = true → dx ≤ i % 6 ∧ dy ≤ i / 6) 36 ?_ ⟨6, 6, rfl, by omega, by omega, Or.inl rfl, Or.inl rfl, fun i hi => absurd hi (by omega)⟩
  rintro n st hn ⟨dx, dy, rfl, hx, hy, mx, my, hl⟩ B hB
  simp only
  unfold wb_X12_moved_9
  rw [i_36, i_le (by omega) (by omega)]
  refine ⟨fun q => ?_, fun q => ?_⟩
  · have : n = 36 := by omega
    subst this
    obtain ⟨i, hi⟩ := h0
    have l0 := hl i (hs i hi) hi
    have i36 := hs i hi
    obtain ⟨i1, a1, a2, a3⟩ := mx.resolve_left (by omega)
    obtain ⟨i2, b1, b2, b3⟩ := my.resolve_left (by omega)
    unfold wc_X12_moved_53
    rw [i_6, pk_mul, i_add]
    have hc : ∀ j, ct (s >>> ((Int32.toInt64 (nI (6 * dy + dx))) &&& 63)) j = ct s (6 * dy + dx + j) := fun j => ct_sar s (by omega) hs
    have hb : ∀ x y, bsh (s >>> ((Int32.toInt64 (nI (6 * dy + dx))) &&& 63)) x y ↔ bsh s (x + dx) (y + dy) := by
      intro x y
      constructor
      · rintro ⟨c1, c2, c3, c4, c5⟩
        rw [hc] at c5
        have l36 := hs _ c5
        have := hl _ l36 c5
        exact ⟨by omega, by omega, by omega, by omega, by rw [← c5]; congr 1; omega⟩
      · rintro ⟨c1, c2, c3, c4, c5⟩
        have l36 := hs _ c5
        have := hl _ l36 c5
        exact ⟨by omega, by omega, by omega, by omega, by rw [hc, ← c5]; congr 1; omega⟩
    refine k _ ⟨fun j e => ?_, ⟨dx, dy, hb⟩, fun x y u => ⟨u.1, u.2.2.1⟩, ⟨((i1 / 6 : Nat) : Int) - dy, ?_⟩, ⟨((i2 % 6 : Nat) : Int) - dx, ?_⟩⟩
    · rw [hc] at e
      have := hs _ e; omega
    · rw [hb, show ((i1 / 6 : Nat) : Int) - dy + dy = ((i1 / 6 : Nat) : Int) by omega, show (0 : Int) + dx = ((i1 % 6 : Nat) : Int) by omega]
      exact (bsh_k (hs _ a2)).mpr a2
    · rw [hb, show ((i2 % 6 : Nat) : Int) - dx + dx = ((i2 % 6 : Nat) : Int) by omega, show (0 : Int) + dy = ((i2 / 6 : Nat) : Int) by omega]
      exact (bsh_k (hs _ b2)).mpr b2
  · rw [ct_s1 hs (by omega)]
    refine ⟨fun u => ?_, fun u => ?_⟩
    · unfold wc_X12_moved_47
      intro v e
      rw [i_1, i_add] at e
      subst e
      have ne : ∀ i, i < n + 1 → ct s i = true → i < n := fun i hi c => by
        have : i ≠ n := fun q => u (by rw [← q]; exact c)
        omega
      refine hB (by omega) _ ⟨dx, dy, rfl, hx, hy, ?_, ?_, fun i hi c => hl i (ne i hi c) c⟩
      · rcases mx with e | ⟨i, a1, a2, a3⟩
        · exact Or.inl e
        · exact Or.inr ⟨i, by omega, a2, a3⟩
      · rcases my with e | ⟨i, a1, a2, a3⟩
        · exact Or.inl e
        · exact Or.inr ⟨i, by omega, a2, a3⟩
    · rw [i_6, pk_rem (by omega) (by omega) (by omega), pk_div (by omega) (by omega) (by omega)]
      refine sp_min _ ⟨_, rfl, ?_⟩
      refine sp_min _ ⟨_, rfl, ?_⟩
      have e1 : (if nI (n % 6) < nI dx then nI (n % 6) else nI dx) = nI (if n % 6 < dx then n % 6 else dx) := by
        by_cases c : n % 6 < dx
        · rw [if_pos c, if_pos ((i_lt (by omega) (by omega)).mpr c)]
        · rw [if_neg c, if_neg (fun h => c ((i_lt (by omega) (by omega)).mp h))]
      have e2 : (if nI (n / 6) < nI dy then nI (n / 6) else nI dy) = nI (if n / 6 < dy then n / 6 else dy) := by
        by_cases c : n / 6 < dy
        · rw [if_pos c, if_pos ((i_lt (by omega) (by omega)).mpr c)]
        · rw [if_neg c, if_neg (fun h => c ((i_lt (by omega) (by omega)).mp h))]
      rw [e1, e2]
      unfold wc_X12_moved_47
      intro v e
      rw [i_1, i_add] at e
      subst e
      refine hB (by omega) _ ⟨_, _, rfl, by split <;> omega, by split <;> omega, ?_, ?_, fun i hi c => ?_⟩
      · by_cases c : n % 6 < dx
        · exact Or.inr ⟨n, by omega, u, by rw [if_pos c]⟩
        · rw [if_neg c]
          rcases mx with e | ⟨i, a1, a2, a3⟩
          · omega
          · exact Or.inr ⟨i, by omega, a2, a3⟩
      · by_cases c : n / 6 < dy
        · exact Or.inr ⟨n, by omega, u, by rw [if_pos c]⟩
        · rw [if_neg c]
          rcases my with e | ⟨i, a1, a2, a3⟩
          · omega
          · exact Or.inr ⟨i, by omega, a2, a3⟩
      · by_cases q2 : i = n
        · subst q2
          constructor
          · split <;> omega
          · split <;> omega
        · have := hl i (by omega) c
          constructor
          · split <;> omega
          · split <;> omega
theorem nz_e {V W : Int → Int → Prop} (e : ∀ x y, V x y ↔ W x y) {t : Int64} (h : nz V t) : nz W t := ⟨h.1, tl_t ⟨0, 0, fun x y => by rw [e, Int.add_zero, Int.add_zero]⟩ h.2.1, h.2.2⟩
theorem nz_0 {V : Int → Int → Prop} {t : Int64} (h : nz V t) : ∃ i, ct t i = true := by
  obtain ⟨_, _, _, ⟨y, hy⟩, _⟩ := h
  exact ⟨_, hy.2.2.2.2⟩
theorem sq_turned (hs : wS s) (h0 : ∃ i, ct s i = true) (k : ∀ t, nz (trn (bsh s)) t → Q (.inl (some (.long t))) z) : wm_X12_turned s z Q := by
  unfold wm_X12_turned wc_X12_turned_5
  refine lp_inv (fun n st => ∃ b, st = (b, nI n, z) ∧ ∀ j, ct b j = true ↔ ∃ i, i < n ∧ ct s i = true ∧ j = 6 * (i % 6) + 5 - i / 6) 36 ?_ ⟨0, rfl, fun j => by
    rw [ct_0]
    exact ⟨fun h => (by cases h), fun ⟨i, hi, _⟩ => absurd hi (by omega)⟩⟩
  rintro n st hn ⟨b, rfl, hb⟩ B hB
  simp only
  unfold wb_X12_turned_5
  rw [i_36, i_le (by omega) (by omega)]
  refine ⟨fun q => ?_, fun q => ?_⟩
  · have : n = 36 := by omega
    subst this
    unfold wc_X12_turned_44
    have hw : wS b := by
      intro j hj
      obtain ⟨i, hi, _, e⟩ := (hb j).mp hj
      omega
    obtain ⟨i, hi⟩ := h0
    have i36 := hs i hi
    refine sq_rMoved hw ⟨_, (hb _).mpr ⟨i, i36, hi, rfl⟩⟩ (fun t ht => ⟨_, rfl, k t (nz_e (fun x y => ?_) ht)⟩)
    show bsh b x y ↔ bsh s y (5 - x)
    constructor
    · rintro ⟨a1, a2, a3, a4, a5⟩
      obtain ⟨i, hi, ci, e⟩ := (hb _).mp a5
      exact ⟨a3, a4, by omega, by omega, by rw [← ci]; congr 1; omega⟩
    · rintro ⟨a1, a2, a3, a4, a5⟩
      have q1 : (6 * (5 - x) + y).toNat = 6 * (5 - x).toNat + y.toNat := by omega
      have q2 : (6 * (5 - x) + y).toNat % 6 = y.toNat := by omega
      have q3 : (6 * (5 - x) + y).toNat / 6 = (5 - x).toNat := by omega
      exact ⟨by omega, by omega, a1, a2, (hb _).mpr ⟨_, hs _ a5, a5, by rw [q2, q3]; omega⟩⟩
  · rw [i_6, pk_rem (by omega) (by omega) (by omega), pk_div (by omega) (by omega) (by omega), pk_mul, i_5, i_add, pk_sub (by omega)]
    intro v1 e1 v2 e2
    rw [i_1, i_add] at e2
    subst e1; subst e2
    refine hB (by omega) _ ⟨_, rfl, fun j => ?_⟩
    rw [ct_or, Bool.or_eq_true, hb, ct_mvb hs (by omega) (by omega), Bool.and_eq_true, decide_eq_true_eq]
    constructor
    · rintro (⟨i, hi, c, e⟩ | ⟨e, c⟩)
      · exact ⟨i, by omega, c, e⟩
      · exact ⟨n, by omega, c, e⟩
    · rintro ⟨i, hi, c, e⟩
      by_cases q3 : i = n
      · subst q3; exact Or.inr ⟨e, c⟩
      · exact Or.inl ⟨i, by omega, c, e⟩
theorem sq_mirrored (hs : wS s) (h0 : ∃ i, ct s i = true) (k : ∀ t, nz (mir (bsh s)) t → Q (.inl (some (.long t))) z) : wm_X12_mirrored s z Q := by
  unfold wm_X12_mirrored wc_X12_mirrored_5
  refine lp_inv (fun n st => ∃ b, st = (b, nI n, z) ∧ ∀ j, ct b j = true ↔ ∃ i, i < n ∧ ct s i = true ∧ j = 6 * (i / 6) + 5 - i % 6) 36 ?_ ⟨0, rfl, fun j => by
    rw [ct_0]
    exact ⟨fun h => (by cases h), fun ⟨i, hi, _⟩ => absurd hi (by omega)⟩⟩
  rintro n st hn ⟨b, rfl, hb⟩ B hB
  simp only
  unfold wb_X12_mirrored_5
  rw [i_36, i_le (by omega) (by omega)]
  refine ⟨fun q => ?_, fun q => ?_⟩
  · have : n = 36 := by omega
    subst this
    unfold wc_X12_mirrored_44
    have hw : wS b := by
      intro j hj
      obtain ⟨i, hi, _, e⟩ := (hb j).mp hj
      omega
    obtain ⟨i, hi⟩ := h0
    have i36 := hs i hi
    refine sq_rMoved hw ⟨_, (hb _).mpr ⟨i, i36, hi, rfl⟩⟩ (fun t ht => ⟨_, rfl, k t (nz_e (fun x y => ?_) ht)⟩)
    show bsh b x y ↔ bsh s (5 - x) y
    constructor
    · rintro ⟨a1, a2, a3, a4, a5⟩
      obtain ⟨i, hi, ci, e⟩ := (hb _).mp a5
      exact ⟨by omega, by omega, a3, a4, by rw [← ci]; congr 1; omega⟩
    · rintro ⟨a1, a2, a3, a4, a5⟩
      exact ⟨by omega, by omega, a3, a4, (hb _).mpr ⟨_, hs _ a5, a5, by omega⟩⟩
  · rw [i_6, pk_rem (by omega) (by omega) (by omega), pk_div (by omega) (by omega) (by omega), pk_mul, i_5, i_add, pk_sub (by omega)]
    intro v1 e1 v2 e2
    rw [i_1, i_add] at e2
    subst e1; subst e2
    refine hB (by omega) _ ⟨_, rfl, fun j => ?_⟩
    rw [ct_or, Bool.or_eq_true, hb, ct_mvb hs (by omega) (by omega), Bool.and_eq_true, decide_eq_true_eq]
    constructor
    · rintro (⟨i, hi, c, e⟩ | ⟨e, c⟩)
      · exact ⟨i, by omega, c, e⟩
      · exact ⟨n, by omega, c, e⟩
    · rintro ⟨i, hi, c, e⟩
      by_cases q3 : i = n
      · subst q3; exact Or.inr ⟨e, c⟩
      · exact Or.inl ⟨i, by omega, c, e⟩
end SHR
