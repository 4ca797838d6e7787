/-! ===== strips: the class's calls, what they answer ===== -/
def st1 (A : Int32) (w : Nat) : Prop := 1 ≤ w ∧ w ≤ 6 ∧ A = nI w
def st2 (A B : Int32) (w n : Nat) : Prop := 1 ≤ w ∧ w ≤ 6 ∧ n ≤ 300 ∧ A = nI w ∧ B = nI n
def st3 (A B : Int32) (w i : Nat) : Prop := 1 ≤ w ∧ w ≤ 6 ∧ i < sOrd w ∧ A = nI w ∧ B = nI (i + 1)
theorem ln_I {v : Int64} {x : Int} (hv : v.toInt = x) (h1 : -1000000000000 ≤ x) (h2 : x ≤ 1000000000000) : v = ln (decide (x < 0)) x.natAbs := by
  refine Int64.toInt_inj.mp ?_
  unfold ln
  have t : (lN x.natAbs).toInt = (x.natAbs : Int) := pk_lT (by omega)
  by_cases q : x < 0
  · rw [decide_eq_true q, if_pos rfl, Int64.toInt_neg, t, hv, Int.bmod_eq_of_le (by omega) (by omega)]; omega
  · rw [decide_eq_false q, if_neg Bool.false_ne_true, t, hv]; omega
section CSTRIP2
variable {z : tq_S} {Q : tq_O → tq_S → Prop} {A B : Int32}
theorem fi_16 {x : Int32} : fi (1 : Int32).toInt (6 : Int32).toInt x = true ↔ ∃ n : Nat, 1 ≤ n ∧ n ≤ 6 ∧ x = nI n := fi_ex (l := 1) (u := 6) (by omega) (by omega)
theorem fi_300 {x : Int32} : fi (0 : Int32).toInt (300 : Int32).toInt x = true ↔ ∃ n : Nat, 0 ≤ n ∧ n ≤ 300 ∧ x = nI n := fi_ex (l := 0) (u := 300) (by omega) (by omega)
theorem sc_strip (k0 : (∀ w n, ¬ st2 A B w n) → Q (.inr 1) z) (k1 : ∀ w n, st2 A B w n → ∀ z', fr ([(2, 39), (3, 40), (3, 41)] ++ FT) z z' → ctx z' (tn false (sN w n)) → Q (.inl (some (.int (nI (tn false (sN w n)).length)))) z') : wm_X11_strip A B z Q := by
  unfold wm_X11_strip
  refine sq_isFrom ⟨_, rfl, fun h1 => k0 (fun w n h => ?_), fun h1 => ?_⟩
  · rw [bi_0] at h1
    rw [fi_16.mpr ⟨w, h.1, h.2.1, h.2.2.2.1⟩] at h1; cases h1
  · rw [bi_n] at h1
    obtain ⟨w, w1, w2, rfl⟩ := fi_16.mp h1
    refine sq_isFrom ⟨_, rfl, fun h2 => ?_, fun h2 => k0 (fun w' n h => ?_)⟩
    · rw [bi_n] at h2
      obtain ⟨n, -, n2, rfl⟩ := fi_300.mp h2
      refine sq_byRule (wd_i w1 w2) n2 (fun z1 f1 b1 n1 => ⟨rfl, ?_⟩)
      refine sq_sayW b1 n1 (fun z2 f2 t2 => ⟨_, rfl, ?_⟩)
      exact k1 w n ⟨w1, w2, n2, rfl, rfl⟩ z2 (fr_t (fr_m (by decide) f1) (fr_m (by decide) f2)) t2
    · rw [bi_0] at h2
      rw [fi_300.mpr ⟨n, Nat.zero_le _, h.2.2.1, h.2.2.2.2⟩] at h2; cases h2
theorem sc_order (k0 : (∀ w, ¬ st1 A w) → Q (.inr 1) z) (k1 : ∀ w, st1 A w → Q (.inl (some (.int (nI (sOrd w))))) z) : wm_X11_order A z Q := by
  unfold wm_X11_order
  refine sq_isFrom ⟨_, rfl, fun h1 => ?_, fun h1 => k0 (fun w h => ?_)⟩
  · rw [bi_n] at h1
    obtain ⟨w, w1, w2, rfl⟩ := fi_16.mp h1
    exact sq_orderOf (wd_i w1 w2) ⟨_, rfl, k1 w ⟨w1, w2, rfl⟩⟩
  · rw [bi_0] at h1
    rw [fi_16.mpr ⟨w, h.1, h.2.1, h.2.2⟩] at h1; cases h1
theorem sc_rule (k0 : (∀ w, ¬ st1 A w) → Q (.inr 1) z) (k2 : ∀ w, st1 A w → (∀ i, ¬ st3 A B w i) → Q (.inr 3) z) (k1 : ∀ w i, st3 A B w i → ∀ z', fr FT z z' → ctx z' (tn (decide (sF w (i + 1) < 0)) (sF w (i + 1)).natAbs) → Q (.inl (some (.int (nI (tn (decide (sF w (i + 1) < 0)) (sF w (i + 1)).natAbs).length)))) z') : wm_X11_rule A B z Q := by
  unfold wm_X11_rule
  refine sq_isFrom ⟨_, rfl, fun h1 => ?_, fun h1 => k0 (fun w h => ?_)⟩
  · rw [bi_n] at h1
    obtain ⟨w, w1, w2, rfl⟩ := fi_16.mp h1
    have hw := wd_i w1 w2
    have ho := wd_o hw
    refine sq_orderOf hw ⟨_, rfl, ?_⟩
    have key : fi (1 : Int32).toInt (nI (sOrd w)).toInt B = true ↔ ∃ n : Nat, 1 ≤ n ∧ n ≤ sOrd w ∧ B = nI n := fi_ex (l := 1) (u := sOrd w) (by omega) (by omega)
    refine sq_isFrom ⟨_, rfl, fun h2 => ?_, fun h2 => k2 w ⟨w1, w2, rfl⟩ (fun i h => ?_)⟩
    · rw [bi_n] at h2
      obtain ⟨n, n1, n2, rfl⟩ := key.mp h2
      obtain ⟨i, rfl⟩ : ∃ i, n = i + 1 := ⟨n - 1, by omega⟩
      have bf := sF_b hw (i := i) (by omega)
      refine sq_factor hw (by omega) (fun v ev => ⟨_, rfl, ?_⟩)
      have e : Int32.toInt64 v = ln (decide (sF w (i + 1) < 0)) (sF w (i + 1)).natAbs := ln_I (by rw [Int32.toInt_toInt64, ev]) (by omega) (by omega)
      dsimp only
      rw [e]
      refine sq_say (by omega) (fun q => ?_) (fun z1 f1 t1 => ⟨_, rfl, k1 w i ⟨w1, w2, by omega, rfl, rfl⟩ z1 f1 t1⟩)
      have := of_decide_eq_true q
      omega
    · rw [bi_0] at h2
      have := h.2.2.1
      rw [key.mpr ⟨i + 1, by omega, by omega, h.2.2.2.2⟩] at h2; cases h2
  · rw [bi_0] at h1
    rw [fi_16.mpr ⟨w, h.1, h.2.1, h.2.2⟩] at h1; cases h1
end CSTRIP2
