/-! ===== the class tells the number of a cover ===== -/
theorem rk_skip {w : Nat} {r : Bool} {p : Nat → Nat} {T : Nat → Bool} : ∀ n i, i + n ≤ 64 → (∀ j, i ≤ j → j < i + n → T j = false) → rk w r i T p = rk w r (i + n) T p
  | 0, _, _, _ => rfl
  | n + 1, i, h1, h2 => by
    have e : i + (n + 1) = i + 1 + n := by omega
    rw [rk_s (by omega), if_neg (by rw [h2 i (Nat.le_refl _) (by omega)]; exact Bool.false_ne_true), rk_skip n (i + 1) (by omega) (fun j a b => h2 j (by omega) (by omega)), e]
theorem rk_64 {w : Nat} {r : Bool} {p : Nat → Nat} {T : Nat → Bool} : rk w r 64 T p = 0 := rfl
def qs (V : Nat → Nat) : Nat → Nat
  | 0 => 0
  | n + 1 => qs V n + V n
section CRANK
variable {w h : Nat} {r : Bool} {S : Nat → Bool} {z : tq_S} {Q : tq_O → tq_S → Prop} {x y st : Nat} {p : Nat → Nat} {R D : Int64}
/-- which way a cover takes at a cell -/
def wt (p : Nat → Nat) (T : Nat → Bool) (i : Nat) : Nat := if T i = true then (if p i = i + 1 then 1 else if p i = i + 8 then 2 else 3) else 0
theorem wt_lt {T : Nat → Bool} {i : Nat} : wt p T i < 4 := by unfold wt; split <;> (try split) <;> (try split) <;> omega
theorem pc_first {i : Nat} (bw : w ≤ 8) (hr : r = true → 4 ≤ w) {T : Nat → Bool} (hb : bh i T) (hp : pc w r T p) (hi : T i = true) : (p i = i + 1 ∧ i % 8 + 1 < w) ∨ (p i = i + 8 ∧ ¬ p i = i + 1) ∨ (p i = i + (w - 1) ∧ r = true ∧ i % 8 = 0 ∧ ¬ p i = i + 1 ∧ ¬ p i = i + 8) := by
  obtain ⟨h1, h2, h3⟩ := hp i hi
  rcases nb_up h3 (hb _ h1).1 hr bw with ⟨a, b⟩ | a | ⟨a, b, c⟩
  · exact Or.inl ⟨a, b⟩
  · exact Or.inr (Or.inl ⟨a, by omega⟩)
  · have := hr b
    exact Or.inr (Or.inr ⟨a, b, c, by omega, by omega⟩)
theorem sq_wayTaken (hd : jd w h r S) (hj : jc w h r S z) (hR : ∀ j, ct R j = (S j && Rp w r p j)) (hD : ∀ j, ct D j = (S j && Dp p j)) (hx : x < w) (hy : y < h) (hst : st < 512) (h8 : st.testBit 8 = true → 1 ≤ x) (hc : ¬ vf_x S w x y st) (hp : pc w r (si S w x y st) p) (k : Q (.inl (some (.int (nI (wt p (si S w x y st) (8 * y + x)))))) z) : wm_X5_wayTaken (nI x) (nI y) (nI st) R D z Q := by
  have hw8 := hd.2.1
  have hw1 := hd.1
  have hh8 := hd.2.2.2.1
  have hS := hd.2.2.2.2.2
  unfold wm_X5_wayTaken
  refine sq_aft (way := 0) hd hj hx hy hst (by omega) ⟨_, rfl, ?_⟩
  cases hopen : sf S w x y st (8 * y + x)
  · obtain ⟨n, ea, -, -⟩ := st_N (h := h) (r := r) hw8 hS hx hc hopen
    have hn := af_lt hw8 hx hst ea
    have e0 : si S w x y st (8 * y + x) = false := by rw [si_ge (Nat.le_refl _)]; exact hopen
    have ew : wt p (si S w x y st) (8 * y + x) = 0 := by unfold wt; rw [e0, if_neg Bool.false_ne_true]
    rw [ew] at k
    rw [ea]
    exact ⟨fun q => absurd q (i_n0 (by omega)), fun _ => k⟩
  · obtain ⟨o1, o2, hA⟩ := (sf_i hx hw8 hc).mp hopen
    rw [(af_e hA ⟨o1, o2⟩).1]
    have e0 : si S w x y st (8 * y + x) = true := by rw [si_ge (Nat.le_refl _)]; exact hopen
    have ew : wt p (si S w x y st) (8 * y + x) = (if p (8 * y + x) = 8 * y + x + 1 then 1 else if p (8 * y + x) = 8 * y + x + 8 then 2 else 3) := by unfold wt; rw [e0, if_pos rfl]
    have d2 : (8 * y + x) % 8 = x := by omega
    have tst : ∀ (C : Int64) (f : Nat → Bool), (∀ j, ct C j = (S j && f j)) → ((C &&& ((1 : Int64) <<< ((Int32.toInt64 (nI (8 * y + x))) &&& 63))) = (0 : Int64) ↔ f (8 * y + x) = false) := by
      intro C f hC
      rw [ct_n0]
      constructor
      · intro q
        have := q (8 * y + x) (by omega)
        rw [ct_and, ct_bit _ (by omega), hC, o1, decide_eq_true rfl] at this
        simpa using this
      · intro q j _
        rw [ct_and, ct_bit _ (by omega), hC]
        by_cases e : j = 8 * y + x
        · rw [e, q]; simp
        · rw [decide_eq_false e]; simp
    have vR : Rp w r p (8 * y + x) = decide (p (8 * y + x) = 8 * y + x + 1) := by
      unfold Rp
      rw [d2]
      rcases pc_first hw8 (jd_r hd) (si_bh hS) hp e0 with ⟨a, b⟩ | ⟨a, b⟩ | ⟨a, b, c, e, f⟩
      · rw [d2] at b
        rw [decide_eq_true a, decide_eq_true b]; rfl
      · rw [decide_eq_false b, a, decide_eq_false (by omega : ¬ 8 * y + x + 8 + (w - 1) = 8 * y + x)]; simp
      · rw [decide_eq_false e, a]
        have := jd_r hd b
        rw [decide_eq_false (by omega : ¬ 8 * y + x + (w - 1) + (w - 1) = 8 * y + x)]; simp
    refine ⟨fun _ => ?_, fun q => absurd (show (-1 : Int32) < 0 by decide +kernel) q⟩
    refine sq_bit ⟨_, rfl, ?_⟩
    have tR := tst R _ hR
    have tD := tst D _ hD
    rw [vR] at tR
    unfold Dp at tD
    refine ⟨fun q1 => ⟨fun q2 => ?_, fun q2 => ?_⟩, fun q1 => ?_⟩
    · rw [tR] at q1
      rw [tD] at q2
      rw [ew, if_neg (of_decide_eq_false q1), if_neg (of_decide_eq_false q2)] at k; exact k
    · rw [tR] at q1
      rw [tD, Bool.not_eq_false] at q2
      rw [ew, if_neg (of_decide_eq_false q1), if_pos (of_decide_eq_true q2)] at k; exact k
    · rw [tR, Bool.not_eq_false] at q1
      rw [ew, if_pos (of_decide_eq_true q1)] at k; exact k
theorem sq_crank (hd : jd w h r S) (hj : jc w h r S z) (hf : fro w h r S z) (hp : pc w r S p) (hR : ∀ j, ct R j = (S j && Rp w r p j)) (hD : ∀ j, ct D j = (S j && Dp p j)) (k : ∀ z', fr [(3, 4)] z z' → Q (.inl (some (.long (lN (rk w r 0 S p))))) z') : wm_X5_rank R D z Q := by
  have hw8 := hd.2.1
  have hw1 := hd.1
  have hh8 := hd.2.2.2.1
  have hS := hd.2.2.2.2.2
  have hr4 := jd_r hd
  have pw : 2 ^ w ≤ 256 := by
    have : (2 : Nat) ^ w ≤ 2 ^ 8 := Nat.pow_le_pow_right (by omega) hw8
    omega
  have s0 : si S w 0 0 0 = S := funext (si_a hw1)
  unfold wm_X5_rank wc_X5_rank_9
  refine lp_inv (fun y s => ∃ z' sum st, s = (lN sum, nI st, nI y, z') ∧ fr [(3, 4)] z z' ∧ st < 2 ^ w ∧ sum + rk w r (8 * y) (si S w 0 y st) p = rk w r 0 S p ∧ pc w r (si S w 0 y st) p) h ?_ ⟨z, 0, 0, rfl, fr_r, Nat.pow_pos (by omega), by rw [s0, Nat.zero_add], by rw [s0]; exact hp⟩
  rintro y s hy ⟨z3, sum, st0, rfl, f3, hst0, hs3, hp3⟩ B hB
  simp only
  have j3 := jc_f f3 (by decide) (by decide) (by decide) (by decide) hj
  unfold wb_X5_rank_9
  rw [j3.2.1]
  refine ⟨fun h1 => ?_, fun h1 => ?_⟩
  · rw [i_le (by omega) (by omega)] at h1
    have e : rk w r (8 * y) (si S w 0 y st0) p = 0 := by
      have e2 : 8 * y + (64 - 8 * y) = 64 := by omega
      rw [rk_skip (64 - 8 * y) (8 * y) (by omega) (fun j _ _ => si_e hS h1 j), e2, rk_64]
    rw [e, Nat.add_zero] at hs3
    rw [hs3]
    exact k z3 f3
  · rw [i_le (by omega) (by omega)] at h1
    have hyh : y < h := by omega
    have g3 := fro_f f3 (by decide) hf
    refine sq_prep (b := some st0) hd j3 hyh (fun mm e => by cases e; exact hst0) (g3 (y + 1) (by omega)) (fun z4 f4 g4 => ⟨rfl, ?_⟩)
    have v0 : vld w r S (some st0) 0 y st0 := vld_m hw8 hst0 (fun _ e => by cases e; rfl)
    have n0 : ¬ vf_x S w 0 y st0 := by
      rintro ⟨q, -⟩
      rw [tb_lt (k := 8) (show st0 < 2 ^ 8 by omega) (by omega)] at q; cases q
    unfold wc_X5_rank_32
    refine lp_inv (fun x s => ∃ z' sum st, s = (lN sum, nI st, nI x, z') ∧ fr [(3, 4)] z z' ∧ fce w r S (some st0) y 0 z' ∧ vld w r S (some st0) x y st ∧ ¬ vf_x S w x y st ∧ sum + rk w r (8 * y + x) (si S w x y st) p = rk w r 0 S p ∧ pc w r (si S w x y st) p) w ?_ ⟨z4, sum, st0, rfl, fr_t f3 f4, g4, v0, n0, hs3, hp3⟩
    rintro x s hx ⟨z5, sum, st, rfl, f5, g5, v5, n5, hs5, hp5⟩ B' hB'
    simp only
    have j5 := jc_f f5 (by decide) (by decide) (by decide) (by decide) hj
    unfold wb_X5_rank_32
    rw [j5.1]
    refine ⟨fun h2 => ?_, fun h2 => ?_⟩
    · rw [i_le (by omega) (by omega)] at h2
      have hxw : x = w := by omega
      subst hxw
      unfold wc_X5_rank_126
      intro v e
      rw [i_1, i_add] at e
      subst e
      have n8 : st.testBit 8 = false := by
        cases hc : st.testBit 8
        · rfl
        · exact absurd ⟨hc, Or.inr (Or.inr (Nat.le_refl _))⟩ n5
      have sw := (si_w (h := h) (S := S) (w := x) (y := y) (st := st) hw8 hS).resolve_right (by rw [n8]; exact Bool.false_ne_true)
      have stw : st < 2 ^ x := lt_tb (fun j hj => by
        cases hc : st.testBit j
        · rfl
        · by_cases q8 : j < 8
          · have := v5.2.1 j q8 hc; omega
          · by_cases q9 : j = 8
            · subst q9; rw [n8] at hc; cases hc
            · rw [tb_lt (k := 9) v5.1 (by omega)] at hc; cases hc)
      rw [sw] at hs5 hp5
      have eK : rk x r (8 * y + x) (si S x 0 (y + 1) st) p = rk x r (8 * (y + 1)) (si S x 0 (y + 1) st) p := by
        have a1 : 8 * (y + 1) = (8 * y + x) + (8 - x) := by omega
        rw [a1]
        refine rk_skip (8 - x) _ (by omega) (fun j hj1 hj2 => ?_)
        unfold si
        rw [decide_eq_false (by omega)]; rfl
      rw [eK] at hs5
      exact hB hyh _ ⟨z5, sum, st, rfl, f5, stw, hs5, hp5⟩
    · rw [i_le (by omega) (by omega)] at h2
      have hxw : x < w := by omega
      have h8x : st.testBit 8 = true → 1 ≤ x := fun q => (v5.2.2.1 q).2
      refine sq_wayTaken hd j5 hR hD hxw hyh v5.1 h8x n5 hp5 ⟨_, rfl, ?_⟩
      obtain ⟨kk, hkk⟩ : ∃ kk, kk = wt p (si S w x y st) (8 * y + x) := ⟨_, rfl⟩
      have kk4 : kk < 4 := by rw [hkk]; exact wt_lt
      rw [← hkk]
      obtain ⟨V, hV⟩ : ∃ V : Nat → Nat, V = fun k => vo w r S (x + 1) y (af w h r S x y st k) := ⟨_, rfl⟩
      have hVk : ∀ k, vo w r S (x + 1) y (af w h r S x y st k) = V k := fun k => by rw [hV]
      unfold wc_X5_rank_61
      refine lp_for (fun k' => (lN (sum + qs V k'), nI k', z5)) kk ?_ rfl
      intro k' hk' B'' hB''
      simp only
      unfold wb_X5_rank_61
      refine ⟨fun h3 => ?_, fun h3 => ?_⟩
      · rw [i_le (by omega) (by omega)] at h3
        have : k' = kk := by omega
        subst this
        unfold wc_X5_rank_97
        refine sq_aft hd j5 hxw hyh v5.1 kk4 ⟨_, rfl, ?_⟩
        have fin : ∀ n, af w h r S x y st k' = some n → ¬ vf_x S w (x + 1) y n → sum + qs V k' + rk w r (8 * y + (x + 1)) (si S w (x + 1) y n) p = rk w r 0 S p → pc w r (si S w (x + 1) y n) p → (0 ≤ bo (af w h r S x y st k') → ∀ v103 : Int32, v103 = nI x + (1 : Int32) → (fun b5 b7 b9 z => B' (b5, b7, b9, z)) (lN (sum + qs V k')) (bo (af w h r S x y st k')) v103 z5) ∧ (¬ 0 ≤ bo (af w h r S x y st k') → Q (.inl (some (.long (-1 : Int64)))) z5) := by
          intro n ea nn q1 q2
          refine ⟨fun _ v e => ?_, fun q => ?_⟩
          · rw [i_1, i_add] at e
            subst e
            rw [ea]
            exact hB' hxw _ ⟨z5, _, n, rfl, f5, g5, af_vld hw8 (jd_r hd) hxw v5 ea, nn, q1, q2⟩
          · rw [bo_neg (af_o hw8 hxw v5.1), ea] at q
            exact absurd (fun u => by cases u) q
        cases hopen : sf S w x y st (8 * y + x)
        · obtain ⟨n, ea, nn, he⟩ := st_N (h := h) (r := r) hw8 hS hxw n5 hopen
          have eset := si_0 hopen he
          have e0 : si S w x y st (8 * y + x) = false := by rw [si_ge (Nat.le_refl _)]; exact hopen
          have k0 : k' = 0 := by rw [hkk]; unfold wt; rw [e0, if_neg Bool.false_ne_true]
          subst k0
          refine fin n ea nn ?_ (by rw [eset]; exact hp5)
          rw [eset, ← hs5, rk_s (i := 8 * y + x) (by omega), if_neg (by rw [e0]; exact Bool.false_ne_true)]; rfl
        · have e0 : si S w x y st (8 * y + x) = true := by rw [si_ge (Nat.le_refl _)]; exact hopen
          obtain ⟨a0, a1, a2, a3⟩ := st_v (h := h) (S := S) (w := w) (r := r) (x := x) (y := y) (st := st) hw1 hw8 hS hr4 hxw hyh h8x n5 hopen
          have V0 : V 0 = 0 := by rw [← hVk, a0]; rfl
          rw [hVk] at a1 a2 a3
          have ew : k' = (if p (8 * y + x) = 8 * y + x + 1 then 1 else if p (8 * y + x) = 8 * y + x + 8 then 2 else 3) := by rw [hkk]; unfold wt; rw [e0, if_pos rfl]
          have rkx := rk_s (w := w) (r := r) (S := si S w x y st) (p := p) (show 8 * y + x < 64 by omega)
          rw [if_pos e0, ← a1, ← a2] at rkx
          have po := hp5 _ e0
          rcases pc_first hw8 hr4 (si_bh hS) hp5 e0 with ⟨b1, b2⟩ | ⟨b1, b2⟩ | ⟨b1, b2, b3, b4, b5⟩
          · rw [if_pos b1] at ew rkx
            subst ew
            have hR2 : cv_R w (8 * y + x) (sf S w x y st) = true := by
              rw [← cv_Rc (A := si S w x y st) (fun j hj => si_ge hj)]
              unfold cv_R
              rw [decide_eq_true b2, ← b1, po.1]; rfl
            obtain ⟨n, ea, nn, he⟩ := st_R (h := h) (r := r) hw8 hxw hyh n5 hopen hR2
            have eset := si_n (S := S) (w := w) (x := x) (y := y) (st := st) (n := n) (o := 8 * y + x + 1) (by omega) he
            refine fin n ea nn ?_ (by rw [eset]; exact pc_rm hp5 e0 b1)
            rw [eset, ← hs5, rkx]
            show sum + (0 + V 0) + _ = _
            rw [V0]; rfl
          · rw [if_neg b2, if_pos b1] at ew rkx
            subst ew
            have hD2 : sf S w x y st (8 * y + x + 8) = true := by
              rw [← si_ge (by omega), ← b1]; exact po.1
            obtain ⟨n, ea, nn, he⟩ := st_D (h := h) (r := r) hw8 hS hxw n5 hopen hD2
            have eset := si_n (S := S) (w := w) (x := x) (y := y) (st := st) (n := n) (o := 8 * y + x + 8) (by omega) he
            refine fin n ea nn ?_ (by rw [eset]; exact pc_rm hp5 e0 b1)
            rw [eset, ← hs5, rkx]
            show sum + (0 + V 0 + V 1) + rk w r (8 * y + x + 1) _ p = _
            rw [V0]; omega
          · rw [if_neg b4, if_neg b5] at ew rkx
            subst ew
            have w4 := hr4 b2
            have hO : cv_O w r (8 * y + x) (sf S w x y st) = true := by
              rw [← cv_Oc (A := si S w x y st) (fun j hj => si_ge hj)]
              unfold cv_O
              rw [b2, decide_eq_true b3, ← b1, po.1]; rfl
            obtain ⟨n, ea, nn, he⟩ := st_O (h := h) hw8 hr4 hxw h8x n5 hopen hO
            have eset := si_n (S := S) (w := w) (x := x) (y := y) (st := st) (n := n) (o := 8 * y + x + (w - 1)) (by omega) he
            refine fin n ea nn ?_ (by rw [eset]; exact pc_rm hp5 e0 b1)
            rw [eset, ← hs5, rkx]
            show sum + (0 + V 0 + V 1 + V 2) + rk w r (8 * y + x + 1) _ p = _
            rw [V0]; omega
      · rw [i_le (by omega) (by omega)] at h3
        refine sq_aft hd j5 hxw hyh v5.1 (by omega) ⟨_, rfl, ?_⟩
        refine sq_onward (by omega) (af_o hw8 hxw v5.1) ⟨_, rfl, fun v1 e1 v2 e2 => ?_⟩
        have eV : vo_l (af w h r S x y st k') (tq_al z5 4) (x + 1) = lN (V k') := by
          rw [← hVk]
          exact vo_ln (fun n e => g5 (x + 1) (Nat.zero_le _) hxw n (af_vld hw8 (jd_r hd) hxw v5 e))
        rw [eV, l_add] at e1
        rw [i_1, i_add] at e2
        subst e1; subst e2
        have := hB'' (by omega)
        rw [Nat.add_assoc]
        exact this
end CRANK
