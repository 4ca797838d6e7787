/-! ===== forms ===== -/
def fm_d (c : Int32) (n : Nat) : Nat := if c = 97 then 2 * n else n
def fm_m (n y : Nat) : Nat := if y < n then n - 1 - y else y - n
def fm_i (c : Int32) (n x y : Nat) : Bool := if c = 97 then decide (fm_m n y ≤ x) && decide (x + fm_m n y + 1 ≤ 2 * n)
  else if c = 115 then decide (x ≤ y)
  else if c = 111 then decide (x = 0) || decide (y = 0) || decide (x + 1 = n) || decide (y + 1 = n)
  else !(decide (x = 0) && decide (y = 0)) && !(decide (x + 1 = n) && decide (y + 1 = n))
def fm_S (c : Int32) (n : Nat) : Nat → Bool := fun j => decide (j % 8 < fm_d c n) && decide (j / 8 < fm_d c n) && fm_i c n (j % 8) (j / 8)
def fm_v (c : Int32) (a : Int32) : Bool := if c = 97 then fi 1 4 a else if c = 115 then fi 1 8 a else if c = 111 then fi 3 8 a else if c = 99 then fi 2 8 a else false
def fm_k (c : Int32) (n : Nat) : Prop := (c = 97 ∧ 1 ≤ n ∧ n ≤ 4) ∨ (c = 115 ∧ 1 ≤ n ∧ n ≤ 8) ∨ (c = 111 ∧ 3 ≤ n ∧ n ≤ 8) ∨ (c = 99 ∧ 2 ≤ n ∧ n ≤ 8)
theorem fi_n {a b : Nat} {x : Int32} (h : fi a b x = true) : ∃ n : Nat, a ≤ n ∧ n ≤ b ∧ n < 2147483648 ∧ x = nI n := by
  unfold fi at h
  simp only [Bool.and_eq_true, decide_eq_true_eq] at h
  obtain ⟨m, hm, rfl⟩ := i_ex (x := x) (by rw [nu_lt, i_z]; omega)
  rw [i_ti hm] at h
  exact ⟨m, by omega, by omega, hm, rfl⟩
theorem fi_ok {a b n : Nat} (h1 : a ≤ n) (h2 : n ≤ b) (h3 : n < 2147483648) : fi a b (nI n) = true := by
  unfold fi
  rw [i_ti h3, decide_eq_true (by omega : (a : Int) ≤ (n : Int)), decide_eq_true (by omega : (n : Int) ≤ (b : Int))]; rfl
theorem fm_vk {c a : Int32} (h : fm_v c a = true) : ∃ n, a = nI n ∧ fm_k c n := by
  unfold fm_v at h
  by_cases h1 : c = 97
  · rw [if_pos h1] at h
    obtain ⟨n, a1, a2, a3, rfl⟩ := fi_n (a := 1) (b := 4) h
    exact ⟨n, rfl, Or.inl ⟨h1, a1, a2⟩⟩
  · rw [if_neg h1] at h
    by_cases h2 : c = 115
    · rw [if_pos h2] at h
      obtain ⟨n, a1, a2, a3, rfl⟩ := fi_n (a := 1) (b := 8) h
      exact ⟨n, rfl, Or.inr (Or.inl ⟨h2, a1, a2⟩)⟩
    · rw [if_neg h2] at h
      by_cases h3 : c = 111
      · rw [if_pos h3] at h
        obtain ⟨n, a1, a2, a3, rfl⟩ := fi_n (a := 3) (b := 8) h
        exact ⟨n, rfl, Or.inr (Or.inr (Or.inl ⟨h3, a1, a2⟩))⟩
      · rw [if_neg h3] at h
        by_cases h4 : c = 99
        · rw [if_pos h4] at h
          obtain ⟨n, a1, a2, a3, rfl⟩ := fi_n (a := 2) (b := 8) h
          exact ⟨n, rfl, Or.inr (Or.inr (Or.inr ⟨h4, a1, a2⟩))⟩
        · rw [if_neg h4] at h; cases h
theorem fm_b {c : Int32} {n : Nat} (h : fm_k c n) : 1 ≤ n ∧ n ≤ 8 ∧ 1 ≤ fm_d c n ∧ fm_d c n ≤ 8 := by
  unfold fm_d
  have d : (115 : Int32) ≠ 97 := by decide +kernel
  have e : (111 : Int32) ≠ 97 := by decide +kernel
  have f : (99 : Int32) ≠ 97 := by decide +kernel
  rcases h with ⟨rfl, h1, h2⟩ | ⟨rfl, h1, h2⟩ | ⟨rfl, h1, h2⟩ | ⟨rfl, h1, h2⟩
  · rw [if_pos rfl]; omega
  · rw [if_neg d]; omega
  · rw [if_neg e]; omega
  · rw [if_neg f]; omega
theorem fm_re {c : Int32} {n : Nat} (h : fm_k c n) : cv_re (fm_d c n) (fm_d c n) (fm_S c n) := by
  have := fm_b h
  intro j hj
  unfold fm_S at hj
  simp only [Bool.and_eq_true, decide_eq_true_eq] at hj
  omega
section FORM
variable {z : tq_S} {Q : tq_O → tq_S → Prop}
theorem sq_isForm {c a : Int32} (k : Q (.inl (some (.int (bi (fm_v c a))))) z) : wm_X1_isForm c a z Q := by
  unfold wm_X1_isForm
  unfold fm_v at k
  refine ⟨fun h1 => ⟨fun h2 => ⟨fun h3 => ⟨fun h4 => ?_, fun h4 => ?_⟩, fun h3 => ?_⟩, fun h2 => ?_⟩, fun h1 => ?_⟩
  · rw [if_neg h1, if_neg h2, if_neg h3, if_neg h4] at k; exact k
  · rw [if_neg h1, if_neg h2, if_neg h3, if_pos h4] at k
    refine sq_isFrom ⟨_, rfl, fun h5 => ?_, fun h5 => ?_⟩
    · rw [bi_0] at h5
      have e : fi 2 8 a = false := h5
      rw [e] at k; exact k
    · rw [bi_n] at h5
      have e : fi 2 8 a = true := h5
      rw [e] at k; exact k
  · rw [if_neg h1, if_neg h2, if_pos h3] at k
    exact sq_isFrom ⟨_, rfl, bi_z, k⟩
  · rw [if_neg h1, if_pos h2] at k
    exact sq_isFrom ⟨_, rfl, bi_z, k⟩
  · rw [if_pos h1] at k
    exact sq_isFrom ⟨_, rfl, bi_z, k⟩
theorem sq_isInForm {c : Int32} {n x y : Nat} (hk : fm_k c n) (hx : x < fm_d c n) (hy : y < fm_d c n) (k : Q (.inl (some (.int (bi (fm_i c n x y))))) z) : wm_X1_isInForm c (nI n) (nI x) (nI y) z Q := by
  have hb := fm_b hk
  unfold wm_X1_isInForm
  unfold fm_i at k
  have hn1 : nI n - (1 : Int32) = nI (n - 1) := by rw [i_1, pk_sub (by omega)]
  have eqn : ∀ a : Nat, a < 100 → (nI a = nI n - (1 : Int32) ↔ a + 1 = n) := fun a ha => by
    rw [hn1, i_eq (by omega) (by omega)]; omega
  have eq0 : ∀ a : Nat, a < 100 → (nI a = (0 : Int32) ↔ a = 0) := fun a ha => by
    rw [i_0, i_eq (by omega) (by omega)]
  have t98 : ¬ c = 97 → ¬ c = 115 → ¬ c = 111 → ¬ (x = 0 ∧ y = 0) → wc_X1_isInForm_98 Q (nI n) (nI x) (nI y) z := by
    intro h1 h2 h3 h4
    rw [if_neg h1, if_neg h2, if_neg h3] at k
    have e : (!(decide (x = 0) && decide (y = 0))) = true := by
      by_cases a : x = 0
      · by_cases b : y = 0
        · exact absurd ⟨a, b⟩ h4
        · rw [decide_eq_false b]; simp
      · rw [decide_eq_false a]; rfl
    rw [e] at k
    unfold wc_X1_isInForm_98
    rw [eqn x (by omega), eqn y (by omega)]
    refine ⟨fun h5 => ?_, fun h5 => ⟨fun h6 => ?_, fun h6 => ?_⟩⟩
    · rw [decide_eq_false h5] at k; exact k
    · rw [decide_eq_true h5, decide_eq_true h6] at k; exact k
    · rw [decide_eq_true h5, decide_eq_false h6] at k; exact k
  rw [eq0 x (by omega), eq0 y (by omega), eqn x (by omega), eqn y (by omega)]
  refine ⟨fun h1 => ⟨fun h2 => ⟨fun h3 => ⟨fun h4 => ?_, fun h4 => ⟨fun h5 => ?_, fun h5 => ?_⟩⟩, fun h3 => ⟨fun h4 => ?_, fun h4 => ⟨fun h5 => ?_, fun h5 => ⟨fun h6 => ?_, fun h6 => ⟨fun h7 => ?_, fun h7 => ?_⟩⟩⟩⟩⟩, fun h2 => ⟨fun h3 => ?_, fun h3 => ?_⟩⟩, fun h1 => ⟨fun h2 => ?_, fun h2 => ?_⟩⟩
  · exact t98 h1 h2 h3 (fun h => h4 h.1)
  · rw [if_neg h1, if_neg h2, if_neg h3, decide_eq_true h4, decide_eq_true h5] at k; exact k
  · exact t98 h1 h2 h3 (fun h => h5 h.2)
  · rw [if_neg h1, if_neg h2, if_pos h3, decide_eq_true h4] at k; exact k
  · rw [if_neg h1, if_neg h2, if_pos h3, decide_eq_true h5] at k; simp only [Bool.or_true, Bool.true_or] at k; exact k
  · rw [if_neg h1, if_neg h2, if_pos h3, decide_eq_true h6] at k; simp only [Bool.or_true, Bool.true_or] at k; exact k
  · rw [if_neg h1, if_neg h2, if_pos h3, decide_eq_false h4, decide_eq_false h5, decide_eq_false h6, decide_eq_false h7] at k; exact k
  · rw [if_neg h1, if_neg h2, if_pos h3, decide_eq_true h7] at k; simp only [Bool.or_true, Bool.true_or] at k; exact k
  · rw [i_lt (by omega) (by omega)] at h3
    rw [if_neg h1, if_pos h2, decide_eq_false (by omega : ¬ x ≤ y)] at k; exact k
  · rw [i_lt (by omega) (by omega)] at h3
    rw [if_neg h1, if_pos h2, decide_eq_true (by omega : x ≤ y)] at k; exact k
  · rw [if_pos h1] at k
    have hd : fm_d c n = 2 * n := if_pos h1
    rw [i_le (by omega) (by omega)] at h2
    unfold wc_X1_isInForm_22
    have e1 : fm_m n y = y - n := if_neg (by omega)
    rw [pk_sub h2, i_2, pk_mul, i_1, pk_sub (by omega), pk_sub (by omega)]
    refine sq_isFrom ⟨_, rfl, bi_z, ?_⟩
    unfold fi
    rw [i_ti (by omega), i_ti (by omega), i_ti (by omega)]
    rw [e1] at k
    have a1 : decide (((y - n : Nat) : Int) ≤ (x : Int)) = decide (y - n ≤ x) := decide_eq_decide.mpr (by omega)
    have a2 : decide ((x : Int) ≤ ((2 * n - 1 - (y - n) : Nat) : Int)) = decide (x + (y - n) + 1 ≤ 2 * n) := decide_eq_decide.mpr (by omega)
    rw [a1, a2]; exact k
  · rw [if_pos h1] at k
    have hd : fm_d c n = 2 * n := if_pos h1
    rw [i_le (by omega) (by omega)] at h2
    unfold wc_X1_isInForm_22
    have e1 : fm_m n y = n - 1 - y := if_pos (by omega)
    rw [hn1, pk_sub (by omega), i_2, pk_mul, i_1, pk_sub (by omega), pk_sub (by omega)]
    refine sq_isFrom ⟨_, rfl, bi_z, ?_⟩
    unfold fi
    rw [i_ti (by omega), i_ti (by omega), i_ti (by omega)]
    rw [e1] at k
    have a1 : decide (((n - 1 - y : Nat) : Int) ≤ (x : Int)) = decide (n - 1 - y ≤ x) := decide_eq_decide.mpr (by omega)
    have a2 : decide ((x : Int) ≤ ((2 * n - 1 - (n - 1 - y) : Nat) : Int)) = decide (x + (n - 1 - y) + 1 ≤ 2 * n) := decide_eq_decide.mpr (by omega)
    rw [a1, a2]; exact k
theorem sq_bit {x y : Nat} (k : Q (.inl (some (.long ((1 : Int64) <<< ((Int32.toInt64 (nI (8 * y + x))) &&& 63))))) z) : wm_X1_bit (nI x) (nI y) z Q := by
  unfold wm_X1_bit
  rw [i_8, pk_mul, i_add]; exact k
theorem sq_formCells {c : Int32} {n : Nat} (hk : fm_k c n) (k : ∀ v, (∀ j, ct v j = fm_S c n j) → Q (.inl (some (.long v))) z) : wm_X1_formCells c (nI n) z Q := by
  have hb := fm_b hk
  have main : wc_X1_formCells_13 Q c (nI n) (nI (fm_d c n)) z := by
    unfold wc_X1_formCells_13 wc_X1_formCells_19
    refine lp_inv (fun y s => ∃ v, s = (v, nI y, z) ∧ ∀ j, ct v j = (decide (j / 8 < y) && fm_S c n j)) (fm_d c n) ?_ ⟨0, rfl, fun j => by rw [ct_0]; simp⟩
    rintro y s hy ⟨v, rfl, hv⟩ B hB
    simp only
    unfold wb_X1_formCells_19
    refine ⟨fun h1 => ?_, fun h1 => ⟨fun h2 => ?_, fun h2 => ?_⟩⟩
    · rw [i_le (by omega) (by omega)] at h1
      refine k v (fun j => ?_)
      rw [hv]
      unfold fm_S
      by_cases a : j / 8 < fm_d c n
      · rw [decide_eq_true (by omega : j / 8 < y), Bool.true_and]
      · rw [decide_eq_false a]; simp
    · rw [i_8, i_le (by omega) (by omega)] at h2
      rw [i_le (by omega) (by omega)] at h1
      omega
    · rw [i_le (by omega) (by omega)] at h1
      unfold wc_X1_formCells_35
      refine lp_inv (fun x s => ∃ v, s = (v, nI x, z) ∧ ∀ j, ct v j = ((decide (j / 8 < y) || (decide (j / 8 = y) && decide (j % 8 < x))) && fm_S c n j)) (fm_d c n) ?_ ⟨v, rfl, fun j => by rw [hv]; simp⟩
      rintro x s hx ⟨v1, rfl, hv1⟩ B' hB'
      simp only
      have out : fm_d c n ≤ x → wc_X1_formCells_76 (fun b3 b5 z => B (b3, b5, z)) Q c (nI n) (nI (fm_d c n)) v1 (nI y) z := by
        intro h3
        unfold wc_X1_formCells_76
        intro v2 e2
        rw [i_1, i_add] at e2
        subst e2
        refine hB (by omega) _ ⟨v1, rfl, fun j => ?_⟩
        rw [hv1]
        by_cases a : fm_S c n j = true
        · rw [a]
          unfold fm_S at a
          simp only [Bool.and_eq_true, decide_eq_true_eq] at a
          rw [decide_eq_true (by omega : j % 8 < x), Bool.and_true, Bool.and_true, Bool.and_true]
          by_cases b : j / 8 < y
          · rw [decide_eq_true b, decide_eq_true (by omega : j / 8 < y + 1)]; rfl
          · by_cases b2 : j / 8 = y
            · rw [decide_eq_true b2, decide_eq_true (by omega : j / 8 < y + 1)]; simp
            · rw [decide_eq_false b, decide_eq_false b2, decide_eq_false (by omega : ¬ j / 8 < y + 1)]; rfl
        · rw [Bool.not_eq_true] at a
          rw [a]; simp
      unfold wb_X1_formCells_35
      refine ⟨fun h3 => ?_, fun h3 => ⟨fun h4 => ?_, fun h4 => ?_⟩⟩
      · rw [i_le (by omega) (by omega)] at h3; exact out h3
      · rw [i_8, i_le (by omega) (by omega)] at h4
        rw [i_le (by omega) (by omega)] at h3; omega
      · rw [i_le (by omega) (by omega)] at h3
        have step : ∀ v2, (∀ j, ct v2 j = (ct v1 j || (decide (j = 8 * y + x) && fm_i c n x y))) → wc_X1_formCells_70 (fun b3 b5 z => B (b3, b5, z)) (fun b3 b6 z => B' (b3, b6, z)) Q c (nI n) (nI (fm_d c n)) v2 (nI y) (nI x) z := by
          intro v2 e2
          unfold wc_X1_formCells_70
          intro v3 e3
          rw [i_1, i_add] at e3
          subst e3
          refine hB' (by omega) _ ⟨v2, rfl, fun j => ?_⟩
          rw [e2, hv1]
          by_cases a : j = 8 * y + x
          · have b1 : j / 8 = y := by omega
            have b2 : j % 8 = x := by omega
            have b3 : fm_S c n j = fm_i c n x y := by
              unfold fm_S; rw [b1, b2, decide_eq_true (by omega : x < fm_d c n), decide_eq_true (by omega : y < fm_d c n)]; rfl
            rw [b3, b1, b2, decide_eq_true a]; simp
          · rw [decide_eq_false a]
            by_cases b : j / 8 = y
            · have b2 : (j % 8 < x) ↔ (j % 8 < x + 1) := by omega
              have b3 : decide (j % 8 < x) = decide (j % 8 < x + 1) := decide_eq_decide.mpr b2
              rw [b3]; simp
            · rw [decide_eq_false b]; simp
        refine sq_isInForm hk (by omega) (by omega) ⟨_, rfl, fun h5 => ?_, fun h5 => ?_⟩
        · rw [bi_0] at h5
          exact step v1 (fun j => by rw [h5]; simp)
        · rw [bi_n] at h5
          refine sq_bit ⟨_, rfl, fun v2 e2 => step v2 (fun j => ?_)⟩
          rw [e2, ct_or, ct_bit _ (by omega), h5, Bool.and_true]
  unfold wm_X1_formCells
  refine ⟨fun h1 => ?_, fun h1 => ?_⟩
  · have e : fm_d c n = n := if_neg h1
    rw [e] at main; exact main
  · have e : fm_d c n = 2 * n := if_pos h1
    rw [e, ← pk_mul, ← i_2] at main; exact main
end FORM
/-! ===== the boards are told, changed, rolled ===== -/
def FC : List (Nat × Nat) := [(0, 64), (0, 65), (0, 66), (1, 67), (0, 68), (0, 516), (0, 519), (0, 522), (1, 517), (1, 518)]
def nc (w h : Nat) (r : Bool) (S : Nat → Bool) (z z' : tq_S) : Prop := fr FC z z' ∧ jc w h r S z' ∧ tq_fi z' 68 = tq_fi z 68 + 1 ∧ tq_fi z' 516 = 0 ∧ tq_fi z' 519 = 0 ∧ tq_fi z' 522 = 0
section MUT
variable {w h : Nat} {r : Bool} {S : Nat → Bool} {z : tq_S} {Q : tq_O → tq_S → Prop}
theorem sq_forget (k : ∀ z', fr [(0, 516), (0, 519), (0, 522), (1, 517), (1, 518)] z z' → tq_fi z' 516 = 0 → tq_fi z' 519 = 0 → tq_fi z' 522 = 0 → Q (.inl none) z') : wm_X2_forget z Q := by
  unfold wm_X2_forget
  intro z1 e1 z2 e2 z3 e3 z4 e4 z5 e5
  subst e1; subst e2; subst e3; subst e4; subst e5
  refine k _ ?_ rfl rfl rfl
  exact fr_sfl (by decide) (fr_sfl (by decide) (fr_sfi (by decide) (fr_sfi (by decide) (fr_sfi (by decide) fr_r))))
theorem sq_tell {v : Int64} (hv : ∀ j, ct v j = S j) (k : ∀ z', fr [(0, 64), (0, 65), (0, 66), (1, 67), (0, 68)] z z' → jc w h false S z' → tq_fi z' 68 = tq_fi z 68 + 1 → Q (.inl none) z') : wm_X1_tell (nI w) (nI h) v z Q := by
  unfold wm_X1_tell
  intro z1 e1 z2 e2 z3 e3 z4 e4 z5 e5
  subst e1; subst e2; subst e3; subst e4; subst e5
  refine k _ ?_ ⟨rfl, rfl, rfl, hv⟩ rfl
  exact fr_sfi (by decide) (fr_sfi (by decide) (fr_sfl (by decide) (fr_sfi (by decide) (fr_sfi (by decide) fr_r))))
/-- what comes behind a change of the board -/
theorem sq_after {z0 : tq_S} (hf : fr [(0, 64), (0, 65), (0, 66), (1, 67), (0, 68)] z0 z) (hj : jc w h r S z) (hc : tq_fi z 68 = tq_fi z0 68 + 1) (k : ∀ z', nc w h r S z0 z' → Q (.inl (some (.int (nI (fb_ct S 64))))) z') : wm_X2_forget z (tq_wv fun z8 => wm_X1_size z8 (tq_wi fun r10 z9 => Q (.inl (some (.int r10))) z9)) := by
  refine sq_forget (fun z' f1 a1 a2 a3 => ⟨rfl, ?_⟩)
  have hj' : jc w h r S z' := jc_f f1 (by decide) (by decide) (by decide) (by decide) hj
  exact sq_size hj' ⟨_, rfl, k z' ⟨fr_t (fr_m (by decide) hf) (fr_m (by decide) f1), hj', (fr_fi f1 (by decide)).trans hc, a1, a2, a3⟩⟩
theorem sc_board {x y : Int32} (k0 : (fi 1 8 x && fi 1 8 y) = false → Q (.inr 1) z) (k1 : ∀ w h, x = nI w → y = nI h → 1 ≤ w → w ≤ 8 → 1 ≤ h → h ≤ 8 → ∀ z', nc w h false (re_S w h) z z' → Q (.inl (some (.int (nI (fb_ct (re_S w h) 64))))) z') : wm_X11_board x y z Q := by
  unfold wm_X11_board
  refine sq_isFrom ⟨_, rfl, fun h1 => ?_, fun h1 => ?_⟩
  · rw [bi_0] at h1
    have e : fi 1 8 x = false := h1
    unfold wc_X11_board_20
    exact k0 (by rw [e]; rfl)
  · rw [bi_n] at h1
    have e : fi 1 8 x = true := h1
    refine sq_isFrom ⟨_, rfl, fun h2 => ?_, fun h2 => ?_⟩
    · rw [bi_n] at h2
      have e2 : fi 1 8 y = true := h2
      obtain ⟨w, b1, b2, b3, rfl⟩ := fi_n (a := 1) (b := 8) e
      obtain ⟨h, b4, b5, b6, rfl⟩ := fi_n (a := 1) (b := 8) e2
      refine sq_rect b2 b5 (fun c hc => ⟨_, rfl, ?_⟩)
      exact sq_tell hc (fun z1 f1 j1 c1 => ⟨rfl, sq_after f1 j1 c1 (k1 w h rfl rfl b1 b2 b4 b5)⟩)
    · rw [bi_0] at h2
      have e2 : fi 1 8 y = false := h2
      unfold wc_X11_board_20
      exact k0 (by rw [e, e2]; rfl)
theorem sc_form {c a : Int32} (k0 : fm_v c a = false → Q (.inr 1) z) (k1 : ∀ n, a = nI n → fm_k c n → ∀ z', nc (fm_d c n) (fm_d c n) false (fm_S c n) z z' → Q (.inl (some (.int (nI (fb_ct (fm_S c n) 64))))) z') : wm_X11_form c a z Q := by
  unfold wm_X11_form
  refine sq_isForm ⟨_, rfl, fun h1 => ?_, fun h1 => ?_⟩
  · rw [bi_n] at h1
    obtain ⟨n, rfl, hk⟩ := fm_vk h1
    have main : wc_X11_form_31 Q c (nI n) (nI (fm_d c n)) z := by
      unfold wc_X11_form_31
      refine sq_formCells hk (fun v hv => ⟨_, rfl, ?_⟩)
      exact sq_tell hv (fun z1 f1 j1 c1 => ⟨rfl, sq_after f1 j1 c1 (k1 n rfl hk)⟩)
    refine ⟨fun h2 => ?_, fun h2 => ?_⟩
    · have e : fm_d c n = n := if_neg h2
      rw [e] at main; exact main
    · have e : fm_d c n = 2 * n := if_pos h2
      rw [e, ← pk_mul, ← i_2] at main; exact main
  · rw [bi_0] at h1
    exact k0 h1
/-- one cell turned -/
def fl_S (S : Nat → Bool) (c : Nat) : Nat → Bool := fun j => if j = c then !S j else S j
theorem sq_change {x y : Nat} (hx : x < w) (hy : y < h) (bw : w ≤ 8) (bh : h ≤ 8) (hj : jc w h r S z) (k : ∀ z', fr [(0, 64), (0, 65), (0, 66), (1, 67), (0, 68)] z z' → jc w h r (fl_S S (8 * y + x)) z' → tq_fi z' 68 = tq_fi z 68 + 1 → Q (.inl none) z') : wm_X1_change (nI x) (nI y) z Q := by
  unfold wm_X1_change
  refine sq_bit ⟨_, rfl, ?_⟩
  intro z1 e1 z2 e2
  subst e1; subst e2
  refine k _ (fr_sfi (by decide) (fr_sfl (by decide) fr_r)) ⟨hj.1, hj.2.1, hj.2.2.1, fun j => ?_⟩ rfl
  show ct (tq_fl z 67 ^^^ _) j = _
  rw [ct_xor, ct_bit _ (by omega), hj.2.2.2]
  unfold fl_S
  by_cases e : j = 8 * y + x
  · rw [if_pos e, decide_eq_true e]; simp
  · rw [if_neg e, decide_eq_false e]; simp
theorem ho_t {x y : Int32} (bw : w ≤ 8) (bh : h ≤ 8) (e : ho w h S x y = true) : ∃ a b, x = nI a ∧ y = nI b ∧ a < w ∧ b < h ∧ S (8 * b + a) = true := by
  have e' := e
  unfold ho at e
  simp only [Bool.and_eq_true, decide_eq_true_eq] at e
  obtain ⟨a, ha, rfl⟩ := i_ex (x := x) (by rw [nu_lt, i_z]; omega)
  obtain ⟨b, hb, rfl⟩ := i_ex (x := y) (by rw [nu_lt, i_z]; omega)
  rw [ho_n ha hb] at e'
  simp only [Bool.and_eq_true, decide_eq_true_eq] at e'
  exact ⟨a, b, rfl, rfl, e'.1.1, e'.1.2, e'.2⟩
theorem sc_cut {x y : Int32} (hd : jd w h r S) (hj : jc w h r S z) (k0 : ho w h S x y = false → Q (.inr 3) z) (k1 : ∀ a b, x = nI a → y = nI b → a < w → b < h → S (8 * b + a) = true → ∀ z', nc w h r (fl_S S (8 * b + a)) z z' → Q (.inl (some (.int (nI (fb_ct (fl_S S (8 * b + a)) 64))))) z') : wm_X11_cut x y z Q := by
  unfold wm_X11_cut
  refine sq_holds hd.2.1 hd.2.2.2.1 hj ⟨_, rfl, fun h1 => ?_, fun h1 => ?_⟩
  · rw [bi_n] at h1
    obtain ⟨a, b, rfl, rfl, ha, hb, hs⟩ := ho_t hd.2.1 hd.2.2.2.1 h1
    exact sq_change ha hb hd.2.1 hd.2.2.2.1 hj (fun z1 f1 j1 c1 => ⟨rfl, sq_after f1 j1 c1 (k1 a b rfl rfl ha hb hs)⟩)
  · rw [bi_0] at h1
    exact k0 h1
theorem sc_roll {b : Bool} {x : Int32} (hx : (x = 0 → b = false) ∧ (¬ x = 0 → b = true ∧ x = 1)) (hd : jd w h r S) (hj : jc w h r S z) (k0 : b = true → ¬ (w % 2 = 0 ∧ 4 ≤ w) → Q (.inr 4) z) (k1 : (b = true → w % 2 = 0 ∧ 4 ≤ w) → ∀ z', nc w h b S z z' → Q (.inl (some (.int (bi r)))) z') : wm_X11_roll x z Q := by
  have hb := hd.2.1
  have xb : x = bi b := by
    by_cases h0 : x = 0
    · rw [hx.1 h0, h0]; rfl
    · rw [(hx.2 h0).1, (hx.2 h0).2]; rfl
  have main : (b = true → w % 2 = 0 ∧ 4 ≤ w) → wc_X11_roll_24 Q x z := by
    intro hr
    unfold wc_X11_roll_24
    intro v ev
    unfold wm_X1_turnRound
    refine ⟨by rw [xb]; exact bi_z, fun z1 e1 z2 e2 => ⟨rfl, ?_⟩⟩
    subst e1; subst e2
    refine sq_forget (fun z' f1 a1 a2 a3 => ⟨rfl, ?_, ?_⟩)
    · rw [ev, hj.2.2.1]; exact bi_z
    · rw [ev, hj.2.2.1]
      refine k1 hr z' ⟨fr_t (fr_sfi (by decide) (fr_sfi (by decide) fr_r)) (fr_m (by decide) f1), ?_, (fr_fi f1 (by decide)).trans rfl, a1, a2, a3⟩
      exact jc_f f1 (by decide) (by decide) (by decide) (by decide) ⟨hj.1, hj.2.1, xb, hj.2.2.2⟩
  unfold wm_X11_roll
  refine ⟨fun h1 => main (fun h2 => by rw [hx.1 h1] at h2; cases h2), fun h1 => ?_⟩
  unfold wm_X1_canBeRolled
  rw [hj.1, i_2, pk_rem (by omega) (by omega) (by omega), i_4]
  refine ⟨fun h2 => ⟨_, rfl, fun h3 => absurd rfl h3, fun _ => k0 (hx.2 h1).1 (fun h4 => ?_)⟩, fun h2 => ⟨fun h3 => ⟨_, rfl, fun h4 => absurd rfl h4, fun _ => k0 (hx.2 h1).1 (fun h4 => ?_)⟩, fun h3 => ⟨_, rfl, fun _ => main (fun _ => ?_), fun h4 => (by cases h4)⟩⟩⟩
  · rw [i_0, i_eq (by omega) (by omega)] at h2; omega
  · rw [i_lt (by omega) (by omega)] at h3; omega
  · rw [i_0, i_eq (by omega) (by omega)] at h2
    rw [i_lt (by omega) (by omega)] at h3; omega
end MUT
