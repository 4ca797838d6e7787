/-! ===== rooks: the calls ===== -/
def mxR (S : Nat → Bool) (h : Nat) : Nat → Nat
  | 0 => 0
  | m + 1 => if rkW S h m = 0 then mxR S h m else if mxR S h m < bcn m then bcn m else mxR S h m
def rbR (S : Nat → Bool) (h N : Nat) : Nat → Nat
  | 0 => 0
  | k + 1 => if rkC S h (k + 1) N = 0 then rbR S h N k else k + 1
section ROOKS3
variable {w h : Nat} {r : Bool} {S : Nat → Bool} {z : tq_S} {Q : tq_O → tq_S → Prop}
theorem mxR_p : ∀ n, (mxR S h n = 0 ∨ ∃ m, m < n ∧ rkW S h m ≠ 0 ∧ bcn m = mxR S h n) ∧ ∀ m, m < n → rkW S h m ≠ 0 → bcn m ≤ mxR S h n := by
  intro n
  induction n with
  | zero => exact ⟨Or.inl rfl, fun m hm => by omega⟩
  | succ n ih =>
    obtain ⟨i1, i2⟩ := ih
    have e : mxR S h (n + 1) = if rkW S h n = 0 then mxR S h n else if mxR S h n < bcn n then bcn n else mxR S h n := rfl
    by_cases q : rkW S h n = 0
    · rw [if_pos q] at e
      rw [e]
      refine ⟨?_, fun m hm hw => ?_⟩
      · rcases i1 with i1 | ⟨m, a, b, c⟩
        · exact Or.inl i1
        · exact Or.inr ⟨m, by omega, b, c⟩
      · by_cases q2 : m = n
        · rw [q2] at hw; exact absurd q hw
        · exact i2 m (by omega) hw
    · rw [if_neg q] at e
      by_cases q3 : mxR S h n < bcn n
      · rw [if_pos q3] at e
        rw [e]
        refine ⟨Or.inr ⟨n, by omega, q, rfl⟩, fun m hm hw => ?_⟩
        by_cases q2 : m = n
        · rw [q2]; exact Nat.le_refl _
        · have := i2 m (by omega) hw; omega
      · rw [if_neg q3] at e
        rw [e]
        refine ⟨?_, fun m hm hw => ?_⟩
        · rcases i1 with i1 | ⟨m, a, b, c⟩
          · exact Or.inl i1
          · exact Or.inr ⟨m, by omega, b, c⟩
        · by_cases q2 : m = n
          · rw [q2]; omega
          · exact i2 m (by omega) hw
theorem rkC_0 {k n : Nat} : rkC S h k n = 0 ↔ ∀ m, m < n → bcn m = k → rkW S h m = 0 := by
  unfold rkC
  constructor
  · intro e m hm hb
    have := fb_sm_zero e m hm
    rw [if_pos hb] at this; exact this
  · intro e
    have e2 : fb_sm (fun m => if bcn m = k then rkW S h m else 0) n = fb_sm (fun _ => 0) n := fb_sm_cong (fun m hm => by
      by_cases q : bcn m = k
      · rw [if_pos q]; exact e m hm q
      · rw [if_neg q])
    rw [e2, fb_sm_0]
theorem rbR_p {N : Nat} : ∀ j, (rbR S h N j = 0 ∨ ∃ m, m < N ∧ rkW S h m ≠ 0 ∧ bcn m = rbR S h N j) ∧ ∀ m, m < N → rkW S h m ≠ 0 → bcn m ≤ j → bcn m ≤ rbR S h N j := by
  intro j
  induction j with
  | zero => exact ⟨Or.inl rfl, fun m _ _ hb => by omega⟩
  | succ j ih =>
    obtain ⟨i1, i2⟩ := ih
    have e : rbR S h N (j + 1) = if rkC S h (j + 1) N = 0 then rbR S h N j else j + 1 := rfl
    by_cases q : rkC S h (j + 1) N = 0
    · rw [if_pos q] at e
      rw [e]
      refine ⟨i1, fun m hm hw hb => ?_⟩
      by_cases q2 : bcn m = j + 1
      · exact absurd (rkC_0.mp q m hm q2) hw
      · exact i2 m hm hw (by omega)
    · rw [if_neg q] at e
      rw [e]
      refine ⟨Or.inr ?_, fun m _ _ hb => hb⟩
      refine Classical.byContradiction fun hn => q (rkC_0.mpr (fun m hm hb => ?_))
      exact Classical.byContradiction fun hw => hn ⟨m, hm, hw, hb⟩
theorem mx_rb {N : Nat} : rbR S h N 8 = mxR S h N := by
  obtain ⟨a1, a2⟩ := mxR_p (S := S) (h := h) N
  obtain ⟨b1, b2⟩ := rbR_p (S := S) (h := h) (N := N) 8
  have l1 : rbR S h N 8 ≤ mxR S h N := by
    rcases b1 with b1 | ⟨m, x1, x2, x3⟩
    · omega
    · rw [← x3]; exact a2 m x1 x2
  have l2 : mxR S h N ≤ rbR S h N 8 := by
    rcases a1 with a1 | ⟨m, x1, x2, x3⟩
    · omega
    · rw [← x3]; exact b2 m x1 x2 (bcn_8 m)
  omega
theorem mxR_8 : ∀ n, mxR S h n ≤ 8 := by
  intro n
  obtain ⟨a1, -⟩ := mxR_p (S := S) (h := h) n
  rcases a1 with a1 | ⟨m, -, -, x3⟩
  · omega
  · rw [← x3]; exact bcn_8 m
theorem sc_mostRooks (hd : jd w h r S) (hj : jc w h r S z) (k : ∀ z', fr [(3, 43)] z z' → Q (.inl (some (.int (nI (mxR S h 256))))) z') : wm_X11_mostRooks z Q := by
  have hh8 := hd.2.2.2.1
  unfold wm_X11_mostRooks wm_X10_findMostRooks
  refine sq_fillWays hd hj (fun z1 f1 g1 => ⟨rfl, ?_⟩)
  unfold wc_X10_findMostRooks_8
  refine lp_inv (fun m s => s = (nI (mxR S h m), nI m, z1)) 256 ?_ rfl
  rintro m s hm rfl B hB
  simp only
  unfold wb_X10_findMostRooks_8
  rw [i_256]
  refine ⟨fun h1 => ?_, fun h1 => ?_⟩
  · rw [i_le (by omega) (by omega)] at h1
    have : m = 256 := by omega
    rw [this]; exact ⟨_, rfl, k z1 f1⟩
  · rw [i_le (by omega) (by omega)] at h1
    have b8 := bcn_8 m
    have m8 := mxR_8 (S := S) (h := h) m
    have e : mxR S h (m + 1) = if rkW S h m = 0 then mxR S h m else if mxR S h m < bcn m then bcn m else mxR S h m := rfl
    have bW := rkW_b (S := S) (y := h) (m := m) hh8
    have fin : ∀ v, v = nI (mxR S h (m + 1)) → wc_X10_findMostRooks_35 (fun b1 b2 z => B (b1, b2, z)) (fun o z => ∃ r2, o = .inl (some (.int r2)) ∧ Q (.inl (some (.int r2))) z) v (nI m) z1 := by
      intro v e1
      unfold wc_X10_findMostRooks_35
      intro v2 e2
      rw [i_1, i_add] at e2
      exact hB (by omega) _ (by rw [e1, e2])
    rw [i_cl (by omega), g1 m (by omega), l_z (by omega)]
    refine ⟨i_in (by omega) (by omega), fun h2 => fin _ (by rw [e, if_pos h2]), fun h2 => ?_⟩
    refine sq_bc8 (by omega) ⟨_, rfl, ?_⟩
    unfold wm_J9_max_7cf53
    show (nI (mxR S h m) < nI (bcn m) → _) ∧ (¬ nI (mxR S h m) < nI (bcn m) → _)
    rw [i_lt (by omega) (by omega)]
    exact ⟨fun h3 => ⟨_, rfl, fin _ (by rw [e, if_neg h2, if_pos h3])⟩, fun h3 => ⟨_, rfl, fin _ (by rw [e, if_neg h2, if_neg h3])⟩⟩
theorem sr_mostRooks (hd : jd w h r S) (hj : jr w h r S z) (k : ∀ z', fr [(0, 3264), (3, 54), (3, 55)] z z' → tq_fi z' 3264 = 0 → Q (.inl (some (.int (nI (mxR S h 256))))) z') : wm_X12_mostRooks z Q := by
  have hh8 := hd.2.2.2.1
  unfold wm_X12_mostRooks
  intro z1 e1
  have f1 : fr [(0, 3264), (3, 54), (3, 55)] z z1 := by rw [e1]; exact fr_sfi (by decide) fr_r
  have t1 : tq_fi z1 3264 = 0 := by rw [e1]; rfl
  unfold wc_X12_mostRooks_9
  obtain ⟨N, hN⟩ : ∃ N : Nat, N = 256 := ⟨_, rfl⟩
  rw [← hN] at k
  rw [← mx_rb] at k
  refine lp_inv (fun j s => ∃ z', s = (nI (rbR S h N j), nI (j + 1), z') ∧ fr [(0, 3264), (3, 54), (3, 55)] z z' ∧ tq_fi z' 3264 = 0) 8 ?_ ⟨z1, rfl, f1, t1⟩
  rintro j s hj8 ⟨z2, rfl, f2, t2⟩ B hB
  simp only
  unfold wb_X12_mostRooks_9
  rw [i_8, i_lt (by omega) (by omega)]
  refine ⟨fun h1 => ?_, fun h1 => ?_⟩
  · have : j = 8 := by omega
    subst this
    exact k z2 f2 t2
  · have j2 := jr_f f2 (by decide) (by decide) (by decide) (by decide) hj
    have hb := rkC_b (S := S) (k := j + 1) hh8
    refine sq_rooksOf (by omega) hd j2 (fun z3 f3 => ⟨_, rfl, ?_⟩)
    rw [← hN] at hb ⊢
    have e : rbR S h N (j + 1) = if rkC S h (j + 1) N = 0 then rbR S h N j else j + 1 := rfl
    have fin : ∀ v, v = nI (rbR S h N (j + 1)) → wc_X12_mostRooks_30 (fun b1 b2 z => B (b1, b2, z)) Q (nI (j + 1)) v z3 := by
      intro v e1
      unfold wc_X12_mostRooks_30
      intro v2 e2
      rw [i_1, i_add] at e2
      exact hB (by omega) _ ⟨z3, by rw [e1, e2], fr_t f2 (fr_m (by decide) f3), (fr_fi f3 (by decide)).trans t2⟩
    have z0 : (lN (rkC S h (j + 1) N) ≤ 0) ↔ rkC S h (j + 1) N = 0 := by
      rw [l_0, pk_lLE (by omega) (by omega)]; omega
    show (lN (rkC S h (j + 1) N) ≤ 0 → _) ∧ (¬ lN (rkC S h (j + 1) N) ≤ 0 → _)
    rw [z0]
    exact ⟨fun h2 => fin _ (by rw [e, if_pos h2]), fun h2 => fin _ (by rw [e, if_neg h2])⟩
theorem sr_rooks {a : Int32} (hd : jd w h r S) (hj : jr w h r S z) (k0 : (∀ n, n ≤ 8 → a ≠ nI n) → ∀ z', fr [(0, 3264)] z z' → tq_fi z' 3264 = 1 → Q (.inl (some (.int 0))) z') (k1 : ∀ n, n ≤ 8 → a = nI n → ∀ z', fr ([(0, 3264), (0, 3279), (2, 60)] ++ FN) z z' → tq_fi z' 3264 = 0 → rt z' (tn false (rkC S h n 256)) → Q (.inl (some (.int (nI (tn false (rkC S h n 256)).length)))) z') : wm_X12_rooks a z Q := by
  unfold wm_X12_rooks
  have key : fi (0 : Int32).toInt (8 : Int32).toInt a = true ↔ ∃ n : Nat, n ≤ 8 ∧ a = nI n := by
    unfold fi
    have h8 : (8 : Int32).toInt = 8 := by decide +kernel
    rw [i_z, h8]
    simp only [Bool.and_eq_true, decide_eq_true_eq]
    constructor
    · rintro ⟨q1, q2⟩
      obtain ⟨n, hn, rfl⟩ := i_ex (x := a) (by rw [nu_lt, i_z]; omega)
      rw [i_ti hn] at q2
      exact ⟨n, by omega, rfl⟩
    · rintro ⟨n, hn, rfl⟩
      rw [i_ti (by omega)]
      omega
  refine sq_isIn ⟨_, rfl, fun h1 => ?_, fun h1 => ?_⟩
  · rw [bi_n, key] at h1
    obtain ⟨n, hn, rfl⟩ := h1
    unfold wc_X12_rooks_16
    refine sq_isThrown (b := false) (a := 1) (fun z1 f1 e1 => ⟨_, rfl, fun _ => ?_, fun h3 => absurd rfl h3⟩)
    have j1 := jr_f f1 (by decide) (by decide) (by decide) (by decide) hj
    refine sq_rooksOf hn hd j1 (fun z2 f2 => ⟨_, rfl, ?_⟩)
    have hb := rkC_b (S := S) (k := n) hd.2.2.2.1
    refine sq_rput (neg := false) (by omega) (fun q => (by cases q)) (fun z3 f3 t3 => ⟨_, rfl, ?_⟩)
    exact k1 n hn rfl z3 (fr_t (fr_m (by decide) f1) (fr_t (fr_m (by decide) f2) (fr_m (by decide) f3))) ((fr_fi f3 (by decide)).trans ((fr_fi f2 (by decide)).trans e1)) t3
  · unfold wc_X12_rooks_16
    refine sq_isThrown (b := true) (a := 1) (fun z1 f1 e1 => ⟨_, rfl, fun h3 => (by cases h3), fun _ => k0 (fun n hn e => ?_) z1 f1 e1⟩)
    rw [bi_0] at h1
    rw [key.mpr ⟨n, hn, e⟩] at h1; cases h1
/-! rolled or holed: some calls are not for such boards -/
theorem sr_isRolledOrHoled {a : Nat} (hd : jd w h r S) (hj : jr w h r S z) (k : ∀ z', fr [(0, 3264), (2, 61), (2, 62), (0, 3282)] z z' → tq_fi z' 3264 = (if (r || decide (0 < gr_n w r (mi w h S) (rim w h r))) = true then nI a else nI 0) → Q (.inl (some (.int (bi (r || decide (0 < gr_n w r (mi w h S) (rim w h r))))))) z') (hg : gr_n w r (mi w h S) (rim w h r) < 2147483648) : wm_X12_isRolledOrHoled (nI a) z Q := by
  have yes : ∀ z1, fr [(0, 3264), (2, 61), (2, 62), (0, 3282)] z z1 → (r || decide (0 < gr_n w r (mi w h S) (rim w h r))) = true → wc_X12_isRolledOrHoled_15 Q (nI a) z1 := by
    intro z1 f1 e
    unfold wc_X12_isRolledOrHoled_15 wc_X12_isRolledOrHoled_20
    refine sq_isThrown (b := true) (a := a) (fun z2 f2 e2 => ⟨_, rfl, bi_z, ?_⟩)
    rw [e] at k
    exact k z2 (fr_t f1 (fr_m (by decide) f2)) e2
  unfold wm_X12_isRolledOrHoled
  rw [hj.1.2.2]
  refine ⟨fun h1 => ?_, fun h1 => ?_⟩
  · have hr : r = true := by
      cases r
      · exact absurd rfl h1
      · rfl
    exact yes z fr_r (by rw [hr]; rfl)
  · have hr : r = false := by
      cases r
      · rfl
      · exact absurd h1 (by decide +kernel)
    refine sr_holesOf hd hj (fun z1 f1 => ⟨_, rfl, ?_⟩)
    have z0 : (nI (gr_n w r (mi w h S) (rim w h r)) ≤ 0) ↔ ¬ 0 < gr_n w r (mi w h S) (rim w h r) := by
      rw [i_0, i_le hg (by omega)]; omega
    show (nI (gr_n w r (mi w h S) (rim w h r)) ≤ 0 → _) ∧ (¬ nI (gr_n w r (mi w h S) (rim w h r)) ≤ 0 → _)
    rw [z0]
    refine ⟨fun h2 => ?_, fun h2 => yes z1 (fr_m (by decide) f1) (by rw [decide_eq_true (Classical.not_not.mp h2)]; simp)⟩
    unfold wc_X12_isRolledOrHoled_20
    refine sq_isThrown (b := false) (a := a) (fun z2 f2 e2 => ⟨_, rfl, bi_z, ?_⟩)
    have e : (r || decide (0 < gr_n w r (mi w h S) (rim w h r))) = false := by rw [decide_eq_false h2, hr]; rfl
    rw [e] at k
    exact k z2 (fr_t (fr_m (by decide) f1) (fr_m (by decide) f2)) e2
end ROOKS3
