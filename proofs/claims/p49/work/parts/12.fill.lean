theorem nu_of {m : Nat} (h : m < 2147483648) : (Int32.ofNat m).toInt = (m : Int) := by
  rw [Int32.toInt_ofNat']
  have h9 : (Int32.size : Int) = 4294967296 := rfl
  exact Int.bmod_eq_of_le (by omega) (by omega)
theorem nu_of1 {m : Nat} : Int32.ofNat m + (1 : Int32) = Int32.ofNat (m + 1) := (Int32.ofNat_add m 1).symm
theorem nu_ofc {m : Nat} (h : m < 2147483648) : Int32.toNatClampNeg (Int32.ofNat m) = m := by
  rw [Int32.toNatClampNeg, nu_of h]; omega
def fl_l (z : tq_S) (b lo hi : Nat) (v : Int64) : tq_S := tq_sal z b (fun j => if lo ≤ j ∧ j < hi then v else tq_al z b j)
theorem fl_l0 {z : tq_S} {b lo : Nat} {v : Int64} : fl_l z b lo lo v = z := by
  obtain ⟨a1, a2, a3, a4, a5⟩ := z
  simp only [fl_l, tq_sal, tq_al, Prod.mk.injEq, true_and, and_true]
  funext k j
  by_cases hk : k = b
  · subst hk
    rw [tq_up_eq, if_neg (by omega)]
  · rw [tq_up_ne hk]
theorem fl_l1 {z : tq_S} {b lo hi : Nat} {v : Int64} (h : lo ≤ hi) : tq_sal (fl_l z b lo hi v) b (vp_updL (tq_al (fl_l z b lo hi v) b) hi v) = fl_l z b lo (hi + 1) v := by
  obtain ⟨a1, a2, a3, a4, a5⟩ := z
  simp only [fl_l, tq_sal, tq_al, Prod.mk.injEq, true_and, and_true]
  funext k j
  by_cases hk : k = b
  · subst hk
    simp only [tq_up_eq, vp_updL]
    by_cases hj : j = hi
    · rw [if_pos hj, if_pos (by omega)]
    · rw [if_neg hj]
      by_cases h2 : lo ≤ j ∧ j < hi
      · rw [if_pos h2, if_pos (by omega)]
      · rw [if_neg h2, if_neg (by omega)]
  · rw [tq_up_ne hk, tq_up_ne hk, tq_up_ne hk]
def fl_i (z : tq_S) (b lo hi : Nat) (v : Int32) : tq_S := tq_sai z b (fun j => if lo ≤ j ∧ j < hi then v else tq_ai z b j)
theorem fl_i0 {z : tq_S} {b lo : Nat} {v : Int32} : fl_i z b lo lo v = z := by
  obtain ⟨a1, a2, a3, a4, a5⟩ := z
  simp only [fl_i, tq_sai, tq_ai, Prod.mk.injEq, true_and, and_true]
  funext k j
  by_cases hk : k = b
  · subst hk
    rw [tq_up_eq, if_neg (by omega)]
  · rw [tq_up_ne hk]
theorem fl_i1 {z : tq_S} {b lo hi : Nat} {v : Int32} (h : lo ≤ hi) : tq_sai (fl_i z b lo hi v) b (upd (tq_ai (fl_i z b lo hi v) b) hi v) = fl_i z b lo (hi + 1) v := by
  obtain ⟨a1, a2, a3, a4, a5⟩ := z
  simp only [fl_i, tq_sai, tq_ai, Prod.mk.injEq, true_and, and_true]
  funext k j
  by_cases hk : k = b
  · subst hk
    simp only [tq_up_eq, upd]
    by_cases hj : j = hi
    · rw [if_pos hj, if_pos (by omega)]
    · rw [if_neg hj]
      by_cases h2 : lo ≤ j ∧ j < hi
      · rw [if_pos h2, if_pos (by omega)]
      · rw [if_neg h2, if_neg (by omega)]
  · rw [tq_up_ne hk, tq_up_ne hk, tq_up_ne hk]
theorem fw_J7_fill_d0a16 {Q : tq_O → tq_S → Prop} {a1 : Int64} {z : tq_S} (k : Q (.inl none) (fl_l z 3 0 2304 a1)) : wm_J7_fill_d0a16 a1 z Q := by
  unfold wm_J7_fill_d0a16
  intro v1 e1
  subst e1
  unfold wc_J7_fill_d0a16_6
  refine tq_lp_I (I := fun s => ∃ m : Nat, m ≤ 2304 ∧ s = (Int32.ofNat m, fl_l z 3 0 m a1)) (μ := fun s => 2304 - s.1.toNatClampNeg) ?_ ⟨0, by omega, by rw [fl_l0]; rfl⟩
  rintro s ⟨m, hm, rfl⟩ B hB
  unfold wb_J7_fill_d0a16_6
  refine ⟨fun h => ?_, fun h => ?_⟩
  · have h1 := nu_le.mp h
    rw [nu_of (by omega), nu_of (by omega)] at h1
    have : m = 2304 := by omega
    subst this
    exact k
  · have h1 : ¬ (Int32.ofNat 2304).toInt ≤ (Int32.ofNat m).toInt := fun h2 => h (nu_le.mpr h2)
    rw [nu_of (by omega), nu_of (by omega)] at h1
    refine ⟨nu_in (by rw [nu_of (by omega)]; omega) (by rw [nu_of (by omega)]; omega), fun z1 e1 v2 e2 => ?_⟩
    subst e1; subst e2
    refine hB _ ⟨m + 1, by omega, ?_⟩ ?_
    · simp only [nu_ofc (show m < 2147483648 by omega), nu_of1, fl_l1 (Nat.zero_le m)]
    · simp only [nu_of1, nu_ofc (show m < 2147483648 by omega), nu_ofc (show m + 1 < 2147483648 by omega)]
      omega
theorem fw_J7_fill_d0a16_r1 {Q : tq_O → tq_S → Prop} {a1 : Int64} {z : tq_S} (k : Q (.inl none) (fl_l z 17 0 1024 a1)) : wm_J7_fill_d0a16_r1 a1 z Q := by
  unfold wm_J7_fill_d0a16_r1
  intro v1 e1
  subst e1
  unfold wc_J7_fill_d0a16_r1_6
  refine tq_lp_I (I := fun s => ∃ m : Nat, m ≤ 1024 ∧ s = (Int32.ofNat m, fl_l z 17 0 m a1)) (μ := fun s => 1024 - s.1.toNatClampNeg) ?_ ⟨0, by omega, by rw [fl_l0]; rfl⟩
  rintro s ⟨m, hm, rfl⟩ B hB
  unfold wb_J7_fill_d0a16_r1_6
  refine ⟨fun h => ?_, fun h => ?_⟩
  · have h1 := nu_le.mp h
    rw [nu_of (by omega), nu_of (by omega)] at h1
    have : m = 1024 := by omega
    subst this
    exact k
  · have h1 : ¬ (Int32.ofNat 1024).toInt ≤ (Int32.ofNat m).toInt := fun h2 => h (nu_le.mpr h2)
    rw [nu_of (by omega), nu_of (by omega)] at h1
    refine ⟨nu_in (by rw [nu_of (by omega)]; omega) (by rw [nu_of (by omega)]; omega), fun z1 e1 v2 e2 => ?_⟩
    subst e1; subst e2
    refine hB _ ⟨m + 1, by omega, ?_⟩ ?_
    · simp only [nu_ofc (show m < 2147483648 by omega), nu_of1, fl_l1 (Nat.zero_le m)]
    · simp only [nu_of1, nu_ofc (show m < 2147483648 by omega), nu_ofc (show m + 1 < 2147483648 by omega)]
      omega
theorem fw_J7_fill_d0a16_r2 {Q : tq_O → tq_S → Prop} {a1 : Int64} {z : tq_S} (k : Q (.inl none) (fl_l z 7 0 128 a1)) : wm_J7_fill_d0a16_r2 a1 z Q := by
  unfold wm_J7_fill_d0a16_r2
  intro v1 e1
  subst e1
  unfold wc_J7_fill_d0a16_r2_6
  refine tq_lp_I (I := fun s => ∃ m : Nat, m ≤ 128 ∧ s = (Int32.ofNat m, fl_l z 7 0 m a1)) (μ := fun s => 128 - s.1.toNatClampNeg) ?_ ⟨0, by omega, by rw [fl_l0]; rfl⟩
  rintro s ⟨m, hm, rfl⟩ B hB
  unfold wb_J7_fill_d0a16_r2_6
  refine ⟨fun h => ?_, fun h => ?_⟩
  · have h1 := nu_le.mp h
    rw [nu_of (by omega), nu_of (by omega)] at h1
    have : m = 128 := by omega
    subst this
    exact k
  · have h1 : ¬ (Int32.ofNat 128).toInt ≤ (Int32.ofNat m).toInt := fun h2 => h (nu_le.mpr h2)
    rw [nu_of (by omega), nu_of (by omega)] at h1
    refine ⟨nu_in (by rw [nu_of (by omega)]; omega) (by rw [nu_of (by omega)]; omega), fun z1 e1 v2 e2 => ?_⟩
    subst e1; subst e2
    refine hB _ ⟨m + 1, by omega, ?_⟩ ?_
    · simp only [nu_ofc (show m < 2147483648 by omega), nu_of1, fl_l1 (Nat.zero_le m)]
    · simp only [nu_of1, nu_ofc (show m < 2147483648 by omega), nu_ofc (show m + 1 < 2147483648 by omega)]
      omega
theorem fw_J7_fill_d0a16_r3 {Q : tq_O → tq_S → Prop} {a1 : Int64} {z : tq_S} (k : Q (.inl none) (fl_l z 5 0 512 a1)) : wm_J7_fill_d0a16_r3 a1 z Q := by
  unfold wm_J7_fill_d0a16_r3
  intro v1 e1
  subst e1
  unfold wc_J7_fill_d0a16_r3_6
  refine tq_lp_I (I := fun s => ∃ m : Nat, m ≤ 512 ∧ s = (Int32.ofNat m, fl_l z 5 0 m a1)) (μ := fun s => 512 - s.1.toNatClampNeg) ?_ ⟨0, by omega, by rw [fl_l0]; rfl⟩
  rintro s ⟨m, hm, rfl⟩ B hB
  unfold wb_J7_fill_d0a16_r3_6
  refine ⟨fun h => ?_, fun h => ?_⟩
  · have h1 := nu_le.mp h
    rw [nu_of (by omega), nu_of (by omega)] at h1
    have : m = 512 := by omega
    subst this
    exact k
  · have h1 : ¬ (Int32.ofNat 512).toInt ≤ (Int32.ofNat m).toInt := fun h2 => h (nu_le.mpr h2)
    rw [nu_of (by omega), nu_of (by omega)] at h1
    refine ⟨nu_in (by rw [nu_of (by omega)]; omega) (by rw [nu_of (by omega)]; omega), fun z1 e1 v2 e2 => ?_⟩
    subst e1; subst e2
    refine hB _ ⟨m + 1, by omega, ?_⟩ ?_
    · simp only [nu_ofc (show m < 2147483648 by omega), nu_of1, fl_l1 (Nat.zero_le m)]
    · simp only [nu_of1, nu_ofc (show m < 2147483648 by omega), nu_ofc (show m + 1 < 2147483648 by omega)]
      omega
theorem fw_J7_fill_d0a16_r4 {Q : tq_O → tq_S → Prop} {a1 : Int64} {z : tq_S} (k : Q (.inl none) (fl_l z 6 0 512 a1)) : wm_J7_fill_d0a16_r4 a1 z Q := by
  unfold wm_J7_fill_d0a16_r4
  intro v1 e1
  subst e1
  unfold wc_J7_fill_d0a16_r4_6
  refine tq_lp_I (I := fun s => ∃ m : Nat, m ≤ 512 ∧ s = (Int32.ofNat m, fl_l z 6 0 m a1)) (μ := fun s => 512 - s.1.toNatClampNeg) ?_ ⟨0, by omega, by rw [fl_l0]; rfl⟩
  rintro s ⟨m, hm, rfl⟩ B hB
  unfold wb_J7_fill_d0a16_r4_6
  refine ⟨fun h => ?_, fun h => ?_⟩
  · have h1 := nu_le.mp h
    rw [nu_of (by omega), nu_of (by omega)] at h1
    have : m = 512 := by omega
    subst this
    exact k
  · have h1 : ¬ (Int32.ofNat 512).toInt ≤ (Int32.ofNat m).toInt := fun h2 => h (nu_le.mpr h2)
    rw [nu_of (by omega), nu_of (by omega)] at h1
    refine ⟨nu_in (by rw [nu_of (by omega)]; omega) (by rw [nu_of (by omega)]; omega), fun z1 e1 v2 e2 => ?_⟩
    subst e1; subst e2
    refine hB _ ⟨m + 1, by omega, ?_⟩ ?_
    · simp only [nu_ofc (show m < 2147483648 by omega), nu_of1, fl_l1 (Nat.zero_le m)]
    · simp only [nu_of1, nu_ofc (show m < 2147483648 by omega), nu_ofc (show m + 1 < 2147483648 by omega)]
      omega
theorem fw_J7_fill_53178 {Q : tq_O → tq_S → Prop} {a1 : Int32} {z : tq_S} (k : Q (.inl none) (fl_i z 14 0 81 a1)) : wm_J7_fill_53178 a1 z Q := by
  unfold wm_J7_fill_53178
  intro v1 e1
  subst e1
  unfold wc_J7_fill_53178_5
  refine tq_lp_I (I := fun s => ∃ m : Nat, m ≤ 81 ∧ s = (Int32.ofNat m, fl_i z 14 0 m a1)) (μ := fun s => 81 - s.1.toNatClampNeg) ?_ ⟨0, by omega, by rw [fl_i0]; rfl⟩
  rintro s ⟨m, hm, rfl⟩ B hB
  unfold wb_J7_fill_53178_5
  refine ⟨fun h => ?_, fun h => ?_⟩
  · have h1 := nu_le.mp h
    rw [nu_of (by omega), nu_of (by omega)] at h1
    have : m = 81 := by omega
    subst this
    exact k
  · have h1 : ¬ (Int32.ofNat 81).toInt ≤ (Int32.ofNat m).toInt := fun h2 => h (nu_le.mpr h2)
    rw [nu_of (by omega), nu_of (by omega)] at h1
    refine ⟨nu_in (by rw [nu_of (by omega)]; omega) (by rw [nu_of (by omega)]; omega), fun z1 e1 v2 e2 => ?_⟩
    subst e1; subst e2
    refine hB _ ⟨m + 1, by omega, ?_⟩ ?_
    · simp only [nu_ofc (show m < 2147483648 by omega), nu_of1, fl_i1 (Nat.zero_le m)]
    · simp only [nu_of1, nu_ofc (show m < 2147483648 by omega), nu_ofc (show m + 1 < 2147483648 by omega)]
      omega
theorem fw_J7_fill_53178_r1 {Q : tq_O → tq_S → Prop} {a1 : Int32} {z : tq_S} (k : Q (.inl none) (fl_i z 13 0 81 a1)) : wm_J7_fill_53178_r1 a1 z Q := by
  unfold wm_J7_fill_53178_r1
  intro v1 e1
  subst e1
  unfold wc_J7_fill_53178_r1_5
  refine tq_lp_I (I := fun s => ∃ m : Nat, m ≤ 81 ∧ s = (Int32.ofNat m, fl_i z 13 0 m a1)) (μ := fun s => 81 - s.1.toNatClampNeg) ?_ ⟨0, by omega, by rw [fl_i0]; rfl⟩
  rintro s ⟨m, hm, rfl⟩ B hB
  unfold wb_J7_fill_53178_r1_5
  refine ⟨fun h => ?_, fun h => ?_⟩
  · have h1 := nu_le.mp h
    rw [nu_of (by omega), nu_of (by omega)] at h1
    have : m = 81 := by omega
    subst this
    exact k
  · have h1 : ¬ (Int32.ofNat 81).toInt ≤ (Int32.ofNat m).toInt := fun h2 => h (nu_le.mpr h2)
    rw [nu_of (by omega), nu_of (by omega)] at h1
    refine ⟨nu_in (by rw [nu_of (by omega)]; omega) (by rw [nu_of (by omega)]; omega), fun z1 e1 v2 e2 => ?_⟩
    subst e1; subst e2
    refine hB _ ⟨m + 1, by omega, ?_⟩ ?_
    · simp only [nu_ofc (show m < 2147483648 by omega), nu_of1, fl_i1 (Nat.zero_le m)]
    · simp only [nu_of1, nu_ofc (show m < 2147483648 by omega), nu_ofc (show m + 1 < 2147483648 by omega)]
      omega
theorem fw_J7_fill_53178_r2 {Q : tq_O → tq_S → Prop} {a1 : Int32} {z : tq_S} (k : Q (.inl none) (fl_i z 20 0 64 a1)) : wm_J7_fill_53178_r2 a1 z Q := by
  unfold wm_J7_fill_53178_r2
  intro v1 e1
  subst e1
  unfold wc_J7_fill_53178_r2_5
  refine tq_lp_I (I := fun s => ∃ m : Nat, m ≤ 64 ∧ s = (Int32.ofNat m, fl_i z 20 0 m a1)) (μ := fun s => 64 - s.1.toNatClampNeg) ?_ ⟨0, by omega, by rw [fl_i0]; rfl⟩
  rintro s ⟨m, hm, rfl⟩ B hB
  unfold wb_J7_fill_53178_r2_5
  refine ⟨fun h => ?_, fun h => ?_⟩
  · have h1 := nu_le.mp h
    rw [nu_of (by omega), nu_of (by omega)] at h1
    have : m = 64 := by omega
    subst this
    exact k
  · have h1 : ¬ (Int32.ofNat 64).toInt ≤ (Int32.ofNat m).toInt := fun h2 => h (nu_le.mpr h2)
    rw [nu_of (by omega), nu_of (by omega)] at h1
    refine ⟨nu_in (by rw [nu_of (by omega)]; omega) (by rw [nu_of (by omega)]; omega), fun z1 e1 v2 e2 => ?_⟩
    subst e1; subst e2
    refine hB _ ⟨m + 1, by omega, ?_⟩ ?_
    · simp only [nu_ofc (show m < 2147483648 by omega), nu_of1, fl_i1 (Nat.zero_le m)]
    · simp only [nu_of1, nu_ofc (show m < 2147483648 by omega), nu_ofc (show m + 1 < 2147483648 by omega)]
      omega
theorem fw_J7_fill_53178_r3 {Q : tq_O → tq_S → Prop} {a1 : Int32} {z : tq_S} (k : Q (.inl none) (fl_i z 32 0 64 a1)) : wm_J7_fill_53178_r3 a1 z Q := by
  unfold wm_J7_fill_53178_r3
  intro v1 e1
  subst e1
  unfold wc_J7_fill_53178_r3_5
  refine tq_lp_I (I := fun s => ∃ m : Nat, m ≤ 64 ∧ s = (Int32.ofNat m, fl_i z 32 0 m a1)) (μ := fun s => 64 - s.1.toNatClampNeg) ?_ ⟨0, by omega, by rw [fl_i0]; rfl⟩
  rintro s ⟨m, hm, rfl⟩ B hB
  unfold wb_J7_fill_53178_r3_5
  refine ⟨fun h => ?_, fun h => ?_⟩
  · have h1 := nu_le.mp h
    rw [nu_of (by omega), nu_of (by omega)] at h1
    have : m = 64 := by omega
    subst this
    exact k
  · have h1 : ¬ (Int32.ofNat 64).toInt ≤ (Int32.ofNat m).toInt := fun h2 => h (nu_le.mpr h2)
    rw [nu_of (by omega), nu_of (by omega)] at h1
    refine ⟨nu_in (by rw [nu_of (by omega)]; omega) (by rw [nu_of (by omega)]; omega), fun z1 e1 v2 e2 => ?_⟩
    subst e1; subst e2
    refine hB _ ⟨m + 1, by omega, ?_⟩ ?_
    · simp only [nu_ofc (show m < 2147483648 by omega), nu_of1, fl_i1 (Nat.zero_le m)]
    · simp only [nu_of1, nu_ofc (show m < 2147483648 by omega), nu_ofc (show m + 1 < 2147483648 by omega)]
      omega
theorem fw_J7_fill_d0a16_r7 {Q : tq_O → tq_S → Prop} {a1 : Int64} {z : tq_S} (k : Q (.inl none) (fl_l z 34 0 2048 a1)) : wm_J7_fill_d0a16_r7 a1 z Q := by
  unfold wm_J7_fill_d0a16_r7
  intro v1 e1
  subst e1
  unfold wc_J7_fill_d0a16_r7_6
  refine tq_lp_I (I := fun s => ∃ m : Nat, m ≤ 2048 ∧ s = (Int32.ofNat m, fl_l z 34 0 m a1)) (μ := fun s => 2048 - s.1.toNatClampNeg) ?_ ⟨0, by omega, by rw [fl_l0]; rfl⟩
  rintro s ⟨m, hm, rfl⟩ B hB
  unfold wb_J7_fill_d0a16_r7_6
  refine ⟨fun h => ?_, fun h => ?_⟩
  · have h1 := nu_le.mp h
    rw [nu_of (by omega), nu_of (by omega)] at h1
    have : m = 2048 := by omega
    subst this
    exact k
  · have h1 : ¬ (Int32.ofNat 2048).toInt ≤ (Int32.ofNat m).toInt := fun h2 => h (nu_le.mpr h2)
    rw [nu_of (by omega), nu_of (by omega)] at h1
    refine ⟨nu_in (by rw [nu_of (by omega)]; omega) (by rw [nu_of (by omega)]; omega), fun z1 e1 v2 e2 => ?_⟩
    subst e1; subst e2
    refine hB _ ⟨m + 1, by omega, ?_⟩ ?_
    · simp only [nu_ofc (show m < 2147483648 by omega), nu_of1, fl_l1 (Nat.zero_le m)]
    · simp only [nu_of1, nu_ofc (show m < 2147483648 by omega), nu_ofc (show m + 1 < 2147483648 by omega)]
      omega
theorem fw_J7_fill_d0a16_r5 {Q : tq_O → tq_S → Prop} {a1 : Int64} {z : tq_S} (k : Q (.inl none) (fl_l z 40 0 64 a1)) : wm_J7_fill_d0a16_r5 a1 z Q := by
  unfold wm_J7_fill_d0a16_r5
  intro v1 e1
  subst e1
  unfold wc_J7_fill_d0a16_r5_6
  refine tq_lp_I (I := fun s => ∃ m : Nat, m ≤ 64 ∧ s = (Int32.ofNat m, fl_l z 40 0 m a1)) (μ := fun s => 64 - s.1.toNatClampNeg) ?_ ⟨0, by omega, by rw [fl_l0]; rfl⟩
  rintro s ⟨m, hm, rfl⟩ B hB
  unfold wb_J7_fill_d0a16_r5_6
  refine ⟨fun h => ?_, fun h => ?_⟩
  · have h1 := nu_le.mp h
    rw [nu_of (by omega), nu_of (by omega)] at h1
    have : m = 64 := by omega
    subst this
    exact k
  · have h1 : ¬ (Int32.ofNat 64).toInt ≤ (Int32.ofNat m).toInt := fun h2 => h (nu_le.mpr h2)
    rw [nu_of (by omega), nu_of (by omega)] at h1
    refine ⟨nu_in (by rw [nu_of (by omega)]; omega) (by rw [nu_of (by omega)]; omega), fun z1 e1 v2 e2 => ?_⟩
    subst e1; subst e2
    refine hB _ ⟨m + 1, by omega, ?_⟩ ?_
    · simp only [nu_ofc (show m < 2147483648 by omega), nu_of1, fl_l1 (Nat.zero_le m)]
    · simp only [nu_of1, nu_ofc (show m < 2147483648 by omega), nu_ofc (show m + 1 < 2147483648 by omega)]
      omega
theorem fw_J7_fill_d0a16_r6 {Q : tq_O → tq_S → Prop} {a1 : Int64} {z : tq_S} (k : Q (.inl none) (fl_l z 41 0 64 a1)) : wm_J7_fill_d0a16_r6 a1 z Q := by
  unfold wm_J7_fill_d0a16_r6
  intro v1 e1
  subst e1
  unfold wc_J7_fill_d0a16_r6_6
  refine tq_lp_I (I := fun s => ∃ m : Nat, m ≤ 64 ∧ s = (Int32.ofNat m, fl_l z 41 0 m a1)) (μ := fun s => 64 - s.1.toNatClampNeg) ?_ ⟨0, by omega, by rw [fl_l0]; rfl⟩
  rintro s ⟨m, hm, rfl⟩ B hB
  unfold wb_J7_fill_d0a16_r6_6
  refine ⟨fun h => ?_, fun h => ?_⟩
  · have h1 := nu_le.mp h
    rw [nu_of (by omega), nu_of (by omega)] at h1
    have : m = 64 := by omega
    subst this
    exact k
  · have h1 : ¬ (Int32.ofNat 64).toInt ≤ (Int32.ofNat m).toInt := fun h2 => h (nu_le.mpr h2)
    rw [nu_of (by omega), nu_of (by omega)] at h1
    refine ⟨nu_in (by rw [nu_of (by omega)]; omega) (by rw [nu_of (by omega)]; omega), fun z1 e1 v2 e2 => ?_⟩
    subst e1; subst e2
    refine hB _ ⟨m + 1, by omega, ?_⟩ ?_
    · simp only [nu_ofc (show m < 2147483648 by omega), nu_of1, fl_l1 (Nat.zero_le m)]
    · simp only [nu_of1, nu_ofc (show m < 2147483648 by omega), nu_ofc (show m + 1 < 2147483648 by omega)]
      omega
