theorem nu_of {m : Nat} (h : m < 2147483648) : (Int32.ofNat m).toInt = (m : Int) := by
  rw [Int32.toInt_ofNat']
  have h9 : (Int32.size : Int) = 4294967296 := rfl
  exact Int.bmod_eq_of_le (by omega) (by omega)
theorem nu_of1 {m : Nat} : Int32.ofNat m + (1 : Int32) = Int32.ofNat (m + 1) := (Int32.ofNat_add m 1).symm
theorem nu_ofc {m : Nat} (h : m < 2147483648) : Int32.toNatClampNeg (Int32.ofNat m) = m := by
  rw [Int32.toNatClampNeg, nu_of h]; omega
def fl_l (z : tq_S) (b lo hi : Nat) (v : Int64) : tq_S := tq_sal z b (fun j => if lo ≤ j ∧ j < hi then v else tq_al z b j)
theorem fl_l0 {z : tq_S} {b lo : Nat} {v : Int64} : fl_l z b lo lo v = z := by
  obtain ⟨a1, a2, a3, a4, a5⟩ := z
  simp only [fl_l, tq_sal, tq_al, Prod.mk.injEq, true_and, and_true]
  funext k j
  by_cases hk : k = b
  · subst hk
    rw [tq_up_eq, if_neg (by omega)]
  · rw [tq_up_ne hk]
theorem fl_l1 {z : tq_S} {b lo hi : Nat} {v : Int64} (h : lo ≤ hi) : tq_sal (fl_l z b lo hi v) b (vp_updL (tq_al (fl_l z b lo hi v) b) hi v) = fl_l z b lo (hi + 1) v := by
  obtain ⟨a1, a2, a3, a4, a5⟩ := z
  simp only [fl_l, tq_sal, tq_al, Prod.mk.injEq, true_and, and_true]
  funext k j
  by_cases hk : k = b
  · subst hk
    simp only [tq_up_eq, vp_updL]
    by_cases hj : j = hi
    · rw [if_pos hj, if_pos (by omega)]
    · rw [if_neg hj]
      by_cases h2 : lo ≤ j ∧ j < hi
      · rw [if_pos h2, if_pos (by omega)]
      · rw [if_neg h2, if_neg (by omega)]
  · rw [tq_up_ne hk, tq_up_ne hk, tq_up_ne hk]
theorem fw_J7_fill_d0a16 {Q : tq_O → tq_S → Prop} {a1 : Int64} {z : tq_S} (k : Q (.inl none) (fl_l z 3 0 2304 a1)) : wm_J7_fill_d0a16 a1 z Q := by
  unfold wm_J7_fill_d0a16
  intro v1 e1
  subst e1
  unfold wc_J7_fill_d0a16_6
  refine tq_lp_I (I := fun s => ∃ m : Nat, m ≤ 2304 ∧ s = (Int32.ofNat m, fl_l z 3 0 m a1)) (μ := fun s => 2304 - s.1.toNatClampNeg) ?_ ⟨0, by omega, by rw [fl_l0]; rfl⟩
  rintro s ⟨m, hm, rfl⟩ B hB
  unfold wb_J7_fill_d0a16_6
  refine ⟨fun h => ?_, fun h => ?_⟩
  · have h1 := nu_le.mp h
    rw [nu_of (by omega), nu_of (by omega)] at h1
    have : m = 2304 := by omega
    subst this
    exact k
  · have h1 : ¬ (Int32.ofNat 2304).toInt ≤ (Int32.ofNat m).toInt := fun h2 => h (nu_le.mpr h2)
    rw [nu_of (by omega), nu_of (by omega)] at h1
    refine ⟨nu_in (by rw [nu_of (by omega)]; omega) (by rw [nu_of (by omega)]; omega), fun z1 e1 v2 e2 => ?_⟩
    subst e1; subst e2
    refine hB _ ⟨m + 1, by omega, ?_⟩ ?_
    · simp only [nu_ofc (show m < 2147483648 by omega), nu_of1, fl_l1 (Nat.zero_le m)]
    · simp only [nu_of1, nu_ofc (show m < 2147483648 by omega), nu_ofc (show m + 1 < 2147483648 by omega)]
      omega
