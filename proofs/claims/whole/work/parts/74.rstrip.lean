/-! ===== strips: the reference's calls ===== -/
theorem bm_ok {w : Nat} (hw : wd w) : bmOk w = true := by
  rcases hw with rfl | rfl | rfl | rfl | rfl | rfl
  · exact bm_1
  · exact bm_2
  · exact bm_3
  · exact bm_4
  · exact bm_5
  · exact bm_6
theorem bm_f {w : Nat} (hw : wd w) : (bmI (trm w) 48).2.2.1 = sOrd w ∧ (∀ i, i < sOrd w → (((2147483647 - (bmI (trm w) 48).1.getD (i + 1) 0) % 2147483647 : Nat) : Int) - (if 1073741823 < (2147483647 - (bmI (trm w) 48).1.getD (i + 1) 0) % 2147483647 then 2147483647 else 0) = sF w (i + 1)) ∧ ∀ i, i < sOrd w → (trm w).getD i 0 = sN w i := by
  have h := bm_ok hw
  have ho := wd_o hw
  unfold bmOk at h
  rw [Bool.and_eq_true, Bool.and_eq_true, beq_iff_eq, List.all_eq_true, List.all_eq_true] at h
  obtain ⟨⟨h1, h2⟩, h3⟩ := h
  refine ⟨h1, fun i hi => ?_, fun i hi => ?_⟩
  · have := h2 i (List.mem_range.mpr hi)
    rw [decide_eq_true_eq] at this
    exact this
  · have := h3 i (List.mem_range.mpr hi)
    rw [beq_iff_eq] at this
    rw [this]
    have e := sN_X hw (show i ≤ 300 by omega)
    rw [sX_i hi] at e
    exact (Int.ofNat.inj e).symm
section RSTRIP
variable {z : tq_S} {Q : tq_O → tq_S → Prop} {A B : Int32} {w : Nat}
/-- the rule is told -/
def RU (w : Nat) (z : tq_S) : Prop := tq_fi z 3313 = nI (sOrd w) ∧ ∀ i, i < sOrd w → ∃ x, tq_al z 79 (i + 1) = lN x ∧ x < 2147483647 ∧ (((2147483647 - x) % 2147483647 : Nat) : Int) - (if 1073741823 < (2147483647 - x) % 2147483647 then 2147483647 else 0) = sF w (i + 1)
theorem RU_f {F : List (Nat × Nat)} {z1 : tq_S} (f : fr F z z1) (h1 : (0, 3313) ∉ F) (h2 : (3, 79) ∉ F) (h : RU w z) : RU w z1 := ⟨(fr_fi f h1).trans h.1, fun i hi => by rw [fr_al f h2]; exact h.2 i hi⟩
theorem sq_ruleOf {i : Nat} (hw : wd w) (hi : i < sOrd w) (h : RU w z) (k : ∀ v : Int64, v.toInt = sF w (i + 1) → Q (.inl (some (.long v))) z) : wm_X12_ruleOf (nI (i + 1)) z Q := by
  have ho := wd_o hw
  obtain ⟨x, x1, x2, x3⟩ := h.2 i hi
  have cP : (2147483647 : Int64) = lN 2147483647 := rfl
  unfold wm_X12_ruleOf
  rw [i_cl (by omega), x1, cP, l_sub (by omega), pk_lRem (by omega) (by omega) (by omega)]
  refine ⟨i_in (by omega) (by omega), fun v1 e1 => ?_⟩
  have mlt : (2147483647 - x) % 2147483647 < 2147483647 := Nat.mod_lt _ (by omega)
  have t1 : v1.toInt = (((2147483647 - x) % 2147483647 : Nat) : Int) := by rw [e1]; exact pk_lT (by omega)
  have c1 : v1 ≤ (1073741823 : Int64) ↔ (2147483647 - x) % 2147483647 ≤ 1073741823 := by
    rw [e1, show (1073741823 : Int64) = lN 1073741823 from rfl, pk_lLE (by omega) (by omega)]
  rw [c1]
  refine ⟨fun q => k _ ?_, fun q => k _ ?_⟩
  · rw [if_neg (by omega)] at x3; omega
  · rw [if_pos (by omega)] at x3
    have t2 : (lN 2147483647).toInt = 2147483647 := pk_lT (by omega)
    rw [fb_subL (by rw [t1, t2]; omega) (by rw [t1, t2]; omega), t1, t2]; exact x3
theorem sq_told (hw : wd w) (k : ∀ z', fr FW z z' → RU w z' → (∀ n, n < sOrd w → tq_al z' 78 n = lN (sN w n)) → Q (.inl none) z') : wm_X12_tellRule (nI w) z Q := by
  have ho := wd_o hw
  obtain ⟨b1, b2, b3⟩ := bm_f hw
  refine sq_tellRule rfl hw (fun z1 f1 A1 B1 t1 => ?_)
  refine k z1 f1 ⟨by rw [A1.2.2, b1], fun i hi => ⟨_, A1.1 (i + 1) (by omega), B1.1 (i + 1), b2 i hi⟩⟩ (fun n hn => ?_)
  rw [t1 n (by omega), b3 n hn]
def FWo : List (Nat × Nat) := (0, 3264) :: FW
theorem sr_order (k0 : (∀ w, ¬ st1 A w) → ∀ z', fr [(0, 3264)] z z' → tq_fi z' 3264 = 1 → Q (.inl (some (.int 0))) z') (k1 : ∀ w, st1 A w → ∀ z', fr FWo z z' → tq_fi z' 3264 = 0 → Q (.inl (some (.int (nI (sOrd w))))) z') : wm_X12_order A z Q := by
  unfold wm_X12_order
  refine sq_isIn ⟨_, rfl, fun h1 => ?_, fun h1 => ?_⟩
  · rw [bi_n] at h1
    obtain ⟨w, w1, w2, rfl⟩ := fi_16.mp h1
    unfold wc_X12_order_16
    refine sq_isThrown (b := false) (a := 1) (fun z1 f1 e1 => ⟨_, rfl, fun _ => ?_, fun q => absurd rfl q⟩)
    refine sq_told (wd_i w1 w2) (fun z2 f2 r2 _ => ⟨rfl, ?_⟩)
    dsimp only
    rw [r2.1]
    exact k1 w ⟨w1, w2, rfl⟩ z2 (fr_t (fr_m (by decide) f1) (fr_m (by decide) f2)) ((fr_fi f2 (by decide)).trans e1)
  · rw [bi_0] at h1
    unfold wc_X12_order_16
    refine sq_isThrown (b := true) (a := 1) (fun z1 f1 e1 => ⟨_, rfl, fun q => absurd q (by decide +kernel), fun _ => k0 (fun w h => ?_) z1 f1 e1⟩)
    rw [fi_16.mpr ⟨w, h.1, h.2.1, h.2.2⟩] at h1; cases h1
theorem sr_rule (k0 : (∀ w, ¬ st1 A w) → ∀ z', fr [(0, 3264)] z z' → tq_fi z' 3264 = 1 → Q (.inl (some (.int 0))) z') (k2 : ∀ w, st1 A w → (∀ i, ¬ st3 A B w i) → ∀ z', fr FWo z z' → tq_fi z' 3264 = nI 2 → Q (.inl (some (.int 0))) z') (k1 : ∀ w i, st3 A B w i → ∀ z', fr ([(0, 3279), (2, 60)] ++ FWo) z z' → tq_fi z' 3264 = 0 → rt z' (tn (decide (sF w (i + 1) < 0)) (sF w (i + 1)).natAbs) → Q (.inl (some (.int (nI (tn (decide (sF w (i + 1) < 0)) (sF w (i + 1)).natAbs).length)))) z') : wm_X12_rule A B z Q := by
  unfold wm_X12_rule
  refine sq_isIn ⟨_, rfl, fun h1 => ?_, fun h1 => ?_⟩
  · rw [bi_n] at h1
    obtain ⟨w, w1, w2, rfl⟩ := fi_16.mp h1
    have hw := wd_i w1 w2
    have ho := wd_o hw
    unfold wc_X12_rule_16
    refine sq_isThrown (b := false) (a := 1) (fun z1 f1 e1 => ⟨_, rfl, fun _ => ?_, fun q => absurd rfl q⟩)
    refine sq_told hw (fun z2 f2 r2 _ => ⟨rfl, ?_⟩)
    dsimp only
    rw [r2.1]
    have key : fi (1 : Int32).toInt (nI (sOrd w)).toInt B = true ↔ ∃ n : Nat, 1 ≤ n ∧ n ≤ sOrd w ∧ B = nI n := fi_ex (l := 1) (u := sOrd w) (by omega) (by omega)
    refine sq_isIn ⟨_, rfl, fun h2 => ?_, fun h2 => ?_⟩
    · rw [bi_n] at h2
      obtain ⟨n, n1, n2, rfl⟩ := key.mp h2
      obtain ⟨i, rfl⟩ : ∃ i, n = i + 1 := ⟨n - 1, by omega⟩
      have bf := sF_b hw (i := i) (by omega)
      unfold wc_X12_rule_48
      refine sq_isThrown (b := false) (a := 2) (fun z3 f3 e3 => ⟨_, rfl, fun _ => ?_, fun q => absurd rfl q⟩)
      refine sq_ruleOf hw (by omega) (RU_f f3 (by decide) (by decide) r2) (fun v ev => ⟨_, rfl, ?_⟩)
      have e := ln_I ev (by omega) (by omega)
      rw [e]
      refine sq_rput (by omega) (fun q => ?_) (fun z4 f4 t4 => ⟨_, rfl, k1 w i ⟨w1, w2, by omega, rfl, rfl⟩ z4 (fr_t (fr_m (by decide) f1) (fr_t (fr_m (by decide) f2) (fr_t (fr_m (by decide) f3) (fr_m (by decide) f4)))) ((fr_fi f4 (by decide)).trans e3) t4⟩)
      have := of_decide_eq_true q
      omega
    · rw [bi_0] at h2
      unfold wc_X12_rule_48
      refine sq_isThrown (b := true) (a := 2) (fun z3 f3 e3 => ⟨_, rfl, fun q => absurd q (by decide +kernel), fun _ => k2 w ⟨w1, w2, rfl⟩ (fun i h => ?_) z3 (fr_t (fr_m (by decide) f1) (fr_t (fr_m (by decide) f2) (fr_m (by decide) f3))) e3⟩)
      have := h.2.2.1
      rw [key.mpr ⟨i + 1, by omega, by omega, h.2.2.2.2⟩] at h2; cases h2
  · rw [bi_0] at h1
    unfold wc_X12_rule_16
    refine sq_isThrown (b := true) (a := 1) (fun z1 f1 e1 => ⟨_, rfl, fun q => absurd q (by decide +kernel), fun _ => k0 (fun w h => ?_) z1 f1 e1⟩)
    rw [fi_16.mpr ⟨w, h.1, h.2.1, h.2.2⟩] at h1; cases h1
/-! the strip -/
def BR (w i : Nat) (z : tq_S) : Prop := ∀ n, n < i → i ≤ n + sOrd w → ∀ k, k < 40 → tq_al z 82 (40 * (n % sOrd w) + k) = lN (dl (sN w n) k)
theorem md_ne {n i d : Nat} (h1 : n < i) (h2 : i < n + d) : n % d ≠ i % d := by
  intro e
  have h3 := Nat.div_add_mod n d
  have h4 := Nat.div_add_mod i d
  rw [e] at h3
  have h5 : d * (n / d) < d * (i / d) := by omega
  have h6 : n / d < i / d := Nat.lt_of_mul_lt_mul_left h5
  have h7 : d * (n / d + 1) ≤ d * (i / d) := Nat.mul_le_mul_left _ h6
  rw [Nat.mul_add] at h7
  omega
def FZ : List (Nat × Nat) := [(3, 82), (3, 83)]
/-- one more length -/
theorem sq_more {n L : Nat} {B128 : Int32 → tq_S → Prop} (hw : wd w) (hn : sOrd w ≤ n) (hn2 : n ≤ 300) (hr : RU w z) (hb : BR w n z) (k : ∀ z', fr FZ z z' → BR w (n + 1) z' → B128 (nI (n + 1)) z') : wc_X12_strip_136 B128 Q (nI L) (nI n) (0 : Int32) z := by
  have ho := wd_o hw
  have md : n % sOrd w < sOrd w := Nat.mod_lt _ (by omega)
  unfold wc_X12_strip_136
  refine lp_inv (fun x s => ∃ z', s = (nI x, z') ∧ fr [(3, 83)] z z' ∧ ∀ y, y < x → (tq_al z' 83 y).toInt = ssk w n y) 40 ?_ ⟨z, rfl, fr_r, fun y hy => by omega⟩
  rintro x s hx ⟨z1, rfl, f1, a1⟩ B hB
  simp only
  unfold wb_X12_strip_136
  rw [i_40, i_le (by omega) (by omega)]
  refine ⟨fun h1 => ?_, fun h1 => ⟨i_in (by omega) (by omega), fun z2 e2 => ?_⟩⟩
  · have : x = 40 := by omega
    subst this
    clear hB
    unfold wc_X12_strip_212
    refine sq_carry (W := sN w n) (s := ssk w n) (q := sqk w n) (sqk_0 hw hn hn2) (fun y _ => sqk_s w n y) (fun y hy => a1 y hy) (fun y hy => ?_) (fun z2 f2 a2 => ⟨rfl, ?_⟩)
    · have := ssk_b (i := n) (k := y) hw (Nat.le_refl (sOrd w))
      show -1000000000000 ≤ fb_si _ _ ∧ fb_si _ _ ≤ 1000000000000
      omega
    · have f02 : fr FZ z z2 := fr_t (fr_m (by decide) f1) (fr_m (by decide) f2)
      have r2 := RU_f (z1 := z2) f02 (by decide) (by decide) hr
      have h2 : ∀ j, tq_al z2 82 j = tq_al z 82 j := fun j => by rw [fr_al f2 (by decide), fr_al f1 (by decide)]
      unfold wc_X12_strip_219
      refine lp_inv (fun x s => ∃ z', s = (nI x, z') ∧ fr [(3, 82)] z2 z' ∧ (∀ y, y < x → tq_al z' 82 (40 * (n % sOrd w) + y) = lN (dl (sN w n) y)) ∧ ∀ j, (j < 40 * (n % sOrd w) ∨ 40 * (n % sOrd w) + 40 ≤ j) → tq_al z' 82 j = tq_al z 82 j) 40 ?_ ⟨z2, rfl, fr_r, fun y hy => by omega, fun j _ => h2 j⟩
      rintro x s hx ⟨z3, rfl, f3, a3, b3⟩ B hB
      simp only
      have r3 := RU_f (z1 := z3) f3 (by decide) (by decide) r2
      unfold wb_X12_strip_219
      rw [i_40, i_le (by omega) (by omega), r3.1, pk_rem (by omega) (by omega) (by omega), pk_mul, i_add, i_cl (by omega), i_cl (by omega)]
      refine ⟨fun h3 => ?_, fun h3 => ⟨by rw [i_0, i_eq (by omega) (by omega)]; omega, i_in (by omega) (by omega), i_in (by omega) (by omega), fun z4 e4 v e5 => ?_⟩⟩
      · unfold wc_X12_strip_256
        intro v e
        rw [i_1, i_add] at e
        rw [e]
        refine k z3 (fr_t f02 (fr_m (by decide) f3)) (fun m hm1 hm2 y hy => ?_)
        by_cases q : m = n
        · subst q; exact a3 y (by omega)
        · have ne := md_ne (n := m) (i := n) (d := sOrd w) (by omega) (by omega)
          rw [b3 _ (by omega)]
          exact hb m (by omega) (by omega) y hy
      · rw [i_1, i_add] at e5
        have e6 : ∀ j, tq_al z4 82 j = if j = 40 * (n % sOrd w) + x then lN (dl (sN w n) x) else tq_al z3 82 j := by
          intro j; rw [e4, rw_ale, rw_updL, fr_al (k := 83) f3 (by decide), a2 x (by omega)]
        refine hB (by omega) _ ⟨z4, by rw [e5], by rw [e4]; exact fr_sal (by decide) f3, fun y hy => ?_, fun j hj => ?_⟩
        · rw [e6]
          by_cases q : y = x
          · rw [if_pos (by omega), q]
          · rw [if_neg (by omega)]; exact a3 y (by omega)
        · rw [e6, if_neg (by omega)]; exact b3 j hj
  · have hB := hB (by omega)
    have f2 : fr [(3, 83)] z z2 := by rw [e2]; exact fr_sal (by decide) f1
    have a2 : ∀ y, y < x → (tq_al z2 83 y).toInt = ssk w n y := fun y hy => by rw [e2, rw_ale, rw_updL, i_cl (by omega), if_neg (by omega)]; exact a1 y hy
    have c2 : (tq_al z2 83 x).toInt = 0 := by rw [e2, rw_ale, rw_updL, i_cl (by omega), if_pos rfl]; rfl
    clear e2
    unfold wc_X12_strip_154
    refine lp_inv (fun t s => ∃ z', s = (nI (t + 1), z') ∧ fr [(3, 83)] z z' ∧ (∀ y, y < x → (tq_al z' 83 y).toInt = ssk w n y) ∧ (tq_al z' 83 x).toInt = fb_si (fun t => sF w (t + 1) * ((dl (sN w (n - 1 - t)) x : Nat) : Int)) t) (sOrd w) ?_ ⟨z2, rfl, f2, a2, c2⟩
    rintro t s ht ⟨z3, rfl, f3, a3, c3⟩ B2 hB2
    simp only
    have r3 := RU_f (z1 := z3) f3 (by decide) (by decide) hr
    unfold wb_X12_strip_154
    rw [r3.1, i_lt (by omega) (by omega)]
    refine ⟨fun h2 => ?_, fun h2 => ⟨i_in (by omega) (by omega), ?_⟩⟩
    · have : t = sOrd w := by omega
      unfold wc_X12_strip_206
      intro v e
      rw [i_1, i_add] at e
      refine hB _ ⟨z3, by rw [e], f3, fun y hy => ?_⟩
      by_cases q : y = x
      · rw [q, c3, this]; rfl
      · exact a3 y (by omega)
    · refine sq_ruleOf hw (by omega) r3 (fun v ev => ⟨_, rfl, ?_⟩)
      dsimp only
      have md2 : (n - (t + 1)) % sOrd w < sOrd w := Nat.mod_lt _ (by omega)
      have e1 : n - 1 - t = n - (t + 1) := by omega
      have rd : tq_al z3 82 (40 * ((n - (t + 1)) % sOrd w) + x) = lN (dl (sN w (n - 1 - t)) x) := by
        rw [fr_al f3 (by decide), e1]
        exact hb _ (by omega) (by omega) x (by omega)
      rw [r3.1, pk_sub (by omega), pk_rem (by omega) (by omega) (by omega), i_40, pk_mul, i_add, i_cl (by omega), i_cl (by omega), rd]
      refine ⟨by rw [i_0, i_eq (by omega) (by omega)]; omega, i_in (by omega) (by omega), i_in (by omega) (by omega), fun z4 e4 v5 e5 => ?_⟩
      rw [i_1, i_add] at e5
      have dlt := dl_lt (sN w (n - 1 - t)) x
      have bt := ssk_b (i := n) (k := x) hw (show t ≤ sOrd w by omega)
      have bt1 := ssk_b (i := n) (k := x) hw (show t + 1 ≤ sOrd w by omega)
      have st : fb_si (fun t => sF w (t + 1) * ((dl (sN w (n - 1 - t)) x : Nat) : Int)) (t + 1) = fb_si (fun t => sF w (t + 1) * ((dl (sN w (n - 1 - t)) x : Nat) : Int)) t + sF w (t + 1) * ((dl (sN w (n - 1 - t)) x : Nat) : Int) := rfl
      have x2 : (lN (dl (sN w (n - 1 - t)) x)).toInt = ((dl (sN w (n - 1 - t)) x : Nat) : Int) := pk_lT (by omega)
      have x3 : (v * lN (dl (sN w (n - 1 - t)) x)).toInt = sF w (t + 1) * ((dl (sN w (n - 1 - t)) x : Nat) : Int) := by
        rw [fb_mulL (by rw [ev, x2]; omega) (by rw [ev, x2]; omega), ev, x2]
      refine hB2 (by omega) _ ⟨z4, by rw [e5], by rw [e4]; exact fr_sal (by decide) f3, fun y hy => ?_, ?_⟩
      · rw [e4, rw_ale, rw_updL, if_neg (by omega)]; exact a3 y hy
      · rw [e4, rw_ale, rw_updL, if_pos rfl, fb_addL (by rw [x3, c3]; omega) (by rw [x3, c3]; omega), x3, c3, st]
def FS : List (Nat × Nat) := [(0, 3264), (3, 54), (3, 55), (3, 78), (3, 79), (3, 80), (3, 81), (0, 3313), (3, 82), (3, 83), (0, 3279), (2, 60)]
theorem sr_strip (k0 : (∀ w n, ¬ st2 A B w n) → ∀ z', fr [(0, 3264)] z z' → tq_fi z' 3264 = 1 → Q (.inl (some (.int 0))) z') (k1 : ∀ w n, st2 A B w n → ∀ z', fr FS z z' → tq_fi z' 3264 = 0 → rt z' (tn false (sN w n)) → Q (.inl (some (.int (nI (tn false (sN w n)).length)))) z') : wm_X12_strip A B z Q := by
  have no : (∀ w n, ¬ st2 A B w n) → wc_X12_strip_22 Q A B z := by
    intro h
    unfold wc_X12_strip_22 wc_X12_strip_27
    exact sq_isThrown (b := true) (a := 1) (fun z1 f1 e1 => ⟨_, rfl, fun q => absurd q (by decide +kernel), fun _ => k0 h z1 f1 e1⟩)
  unfold wm_X12_strip
  refine sq_isIn ⟨_, rfl, fun h1 => no (fun w n h => ?_), fun h1 => ?_⟩
  · rw [bi_0] at h1
    rw [fi_16.mpr ⟨w, h.1, h.2.1, h.2.2.2.1⟩] at h1; cases h1
  rw [bi_n] at h1
  obtain ⟨w, w1, w2, rfl⟩ := fi_16.mp h1
  refine sq_isIn ⟨_, rfl, fun h2 => ?_, fun h2 => no (fun w' n h => ?_)⟩
  rotate_left
  · rw [bi_0] at h2
    rw [fi_300.mpr ⟨n, Nat.zero_le _, h.2.2.1, h.2.2.2.2⟩] at h2; cases h2
  rw [bi_n] at h2
  obtain ⟨L, -, L3, rfl⟩ := fi_300.mp h2
  have hw := wd_i w1 w2
  have ho := wd_o hw
  have K := k1 w L ⟨w1, w2, L3, rfl, rfl⟩
  have md : L % sOrd w < sOrd w := Nat.mod_lt _ (by omega)
  unfold wc_X12_strip_27
  refine sq_isThrown (b := false) (a := 1) (fun z1 f1 e1 => ⟨_, rfl, fun _ => ?_, fun q => absurd rfl q⟩)
  refine sq_told hw (fun z2 f2 r2 t2 => ⟨rfl, ?_⟩)
  have f02 : fr FS z z2 := fr_t (fr_m (by decide) f1) (fr_m (by decide) f2)
  have e02 : tq_fi z2 3264 = 0 := (fr_fi f2 (by decide)).trans e1
  -- what comes last
  have last : ∀ z3 i, fr FS z z3 → tq_fi z3 3264 = 0 → RU w z3 → BR w i z3 → L < i → i ≤ L + sOrd w → wc_X12_strip_262 Q (nI L) z3 := by
    intro z3 i f3 e3 r3 b3 hi1 hi2
    unfold wc_X12_strip_262 wc_X12_strip_264
    refine lp_inv (fun x s => ∃ z', s = (nI x, z') ∧ fr [(3, 83)] z3 z' ∧ ∀ y, y < x → tq_al z' 83 y = lN (dl (sN w L) y)) 40 ?_ ⟨z3, rfl, fr_r, fun y hy => by omega⟩
    rintro x s hx ⟨z4, rfl, f4, a4⟩ B1 hB1
    simp only
    have r4 := RU_f (z1 := z4) f4 (by decide) (by decide) r3
    unfold wb_X12_strip_264
    rw [i_40, i_le (by omega) (by omega), r4.1, pk_rem (by omega) (by omega) (by omega), pk_mul, i_add, i_cl (by omega), i_cl (by omega)]
    refine ⟨fun h4 => ?_, fun h4 => ⟨by rw [i_0, i_eq (by omega) (by omega)]; omega, i_in (by omega) (by omega), i_in (by omega) (by omega), fun z5 e5 v e6 => ?_⟩⟩
    · unfold wc_X12_strip_298
      refine sq_putSum (Nat.lt_trans (sN_b hw L3) (by decide +kernel)) (fun y hy => a4 y (by omega)) (fun z5 f5 t5 => ⟨_, rfl, K z5 (fr_t f3 (fr_t (fr_m (by decide) f4) (fr_m (by decide) f5))) ?_ t5⟩)
      rw [fr_fi f5 (by decide), fr_fi f4 (by decide)]; exact e3
    · rw [i_1, i_add] at e6
      refine hB1 (by omega) _ ⟨z5, by rw [e6], by rw [e5]; exact fr_sal (by decide) f4, fun y hy => ?_⟩
      rw [e5, rw_ale, rw_updL]
      by_cases q : y = x
      · rw [if_pos q, fr_al f4 (by decide), b3 L hi1 hi2 x (by omega), q]
      · rw [if_neg q]; exact a4 y (by omega)
  -- the lengths from the order on
  have go : ∀ z3, fr FS z z3 → tq_fi z3 3264 = 0 → RU w z3 → BR w (sOrd w) z3 → wc_X12_strip_123 Q (nI L) z3 := by
    intro z3 f3 e3 r3 b3
    unfold wc_X12_strip_123
    intro v ev
    rw [ev, r3.1]
    unfold wc_X12_strip_128
    refine lp_inv (fun m s => ∃ z', s = (nI (sOrd w + m), z') ∧ fr FS z z' ∧ tq_fi z' 3264 = 0 ∧ RU w z' ∧ BR w (sOrd w + m) z' ∧ (m = 0 ∨ sOrd w + m ≤ L + 1)) (L + 1) ?_ ⟨z3, rfl, f3, e3, r3, b3, Or.inl rfl⟩
    rintro m s hm ⟨z4, rfl, f4, e4, r4, b4, hm2⟩ B1 hB1
    simp only
    unfold wb_X12_strip_128
    rw [i_lt (by omega) (by omega)]
    refine ⟨fun h4 => last z4 _ f4 e4 r4 b4 h4 (by omega), fun h4 => ?_⟩
    refine sq_more hw (by omega) (by omega) r4 b4 (fun z5 f5 b5 => ?_)
    exact hB1 (by omega) _ ⟨z5, rfl, fr_t f4 (fr_m (by decide) f5), (fr_fi f5 (by decide)).trans e4, RU_f f5 (by decide) (by decide) r4, b5, Or.inr (by omega)⟩
  -- the first terms
  unfold wc_X12_strip_43
  refine lp_inv (fun n s => ∃ z', s = (nI n, z') ∧ fr [(3, 82)] z2 z' ∧ ∀ m, m < n → ∀ k, k < 40 → tq_al z' 82 (40 * m + k) = lN (dl (sN w m) k)) (sOrd w) ?_ ⟨z2, rfl, fr_r, fun m hm => by omega⟩
  rintro n s hn ⟨z3, rfl, f3, a3⟩ B1 hB1
  simp only
  have r3 := RU_f (z1 := z3) f3 (by decide) (by decide) r2
  unfold wb_X12_strip_43
  rw [r3.1, i_le (by omega) (by omega)]
  refine ⟨fun h3 => go z3 (fr_t f02 (fr_m (by decide) f3)) ((fr_fi f3 (by decide)).trans e02) r3 (fun m hm1 hm2 y hy => ?_), fun h3 => ?_⟩
  · rw [Nat.mod_eq_of_lt hm1]; exact a3 m (by omega) y hy
  · have hB1 := hB1 (by omega)
    have sm : sN w n < 1000000000 * 1000000000 := Nat.lt_trans (Nat.lt_of_lt_of_le (show sN w n < 100000 from by
      have e := sN_X hw (show n ≤ 300 by omega)
      rw [sX_i (by omega)] at e
      have key : ∀ w : Fin 7, ∀ i : Fin 8, (sIni w.val).getD i.val 0 < 100000 := by decide +kernel
      have := key ⟨w, by omega⟩ ⟨n, by omega⟩
      simp only at this
      omega) (by omega)) (show 1000000000 < 1000000000 * 1000000000 by omega)
    have td : tq_al z3 78 n = lN (sN w n) := by rw [fr_al f3 (by decide)]; exact t2 n (by omega)
    unfold wc_X12_strip_54
    refine lp_inv (fun x s => ∃ z', s = (nI x, z') ∧ fr [(3, 82)] z3 z' ∧ (∀ y, y < x → tq_al z' 82 (40 * n + y) = lN (dl (sN w n) y)) ∧ ∀ j, j < 40 * n → tq_al z' 82 j = tq_al z3 82 j) 40 ?_ ⟨z3, rfl, fr_r, fun y hy => by omega, fun _ _ => rfl⟩
    rintro x s hx ⟨z4, rfl, f4, a4, b4⟩ B2 hB2
    simp only
    have td4 : tq_al z4 78 n = lN (sN w n) := by rw [fr_al f4 (by decide)]; exact td
    have fin : ∀ v : Int64, v = lN (dl (sN w n) x) → x < 40 → wc_X12_strip_110 (fun b3 z => B1 (b3, z)) (fun b4 z => B2 (b4, z)) Q (nI L) (nI n) (nI x) v (nI (40 * n + x)) z4 := by
      intro v ev hx40
      unfold wc_X12_strip_110
      refine ⟨i_in (by omega) (by omega), fun z5 e5 v6 e6 => ?_⟩
      rw [i_1, i_add] at e6
      rw [i_cl (by omega), ev] at e5
      refine hB2 hx40 _ ⟨z5, by rw [e6], by rw [e5]; exact fr_sal (by decide) f4, fun y hy => ?_, fun j hj => ?_⟩
      · rw [e5, rw_ale, rw_updL]
        by_cases q : y = x
        · rw [if_pos (by omega), q]
        · rw [if_neg (by omega)]; exact a4 y (by omega)
      · rw [e5, rw_ale, rw_updL, if_neg (by omega)]; exact b4 j hj
    unfold wb_X12_strip_54
    rw [i_40, i_le (by omega) (by omega), pk_mul, i_add, i_cl (by omega), td4, i_0, i_1, i_eq (by omega) (by omega), i_eq (by omega) (by omega), show (1000000000 : Int64) = lN 1000000000 from rfl, pk_lRem (by omega) (by omega) (by omega), pk_lDiv (by omega) (by omega) (by omega)]
    refine ⟨fun h4 => ?_, fun h4 => ⟨fun h5 => ⟨fun h6 => fin _ ?_ (by omega), fun h6 => ⟨i_in (by omega) (by omega), fin _ ?_ (by omega)⟩⟩, fun h5 => ⟨i_in (by omega) (by omega), fin _ ?_ (by omega)⟩⟩⟩
    · unfold wc_X12_strip_117
      intro v e
      rw [i_1, i_add] at e
      refine hB1 _ ⟨z4, by rw [e], fr_t f3 f4, fun m hm y hy => ?_⟩
      by_cases q : m = n
      · rw [q]; exact a4 y (by omega)
      · rw [b4 _ (by omega)]; exact a3 m (by omega) y hy
    · have : dl (sN w n) x = 0 := dl_hi (Nat.le_trans (nd_le (k := 2) (by have : (1000000000 : Nat) ^ 2 = 1000000000 * 1000000000 := by decide
                                                                          omega)) (by omega))
      rw [this]; rfl
    · rw [h6]
      unfold dl
      rw [Nat.pow_one, Nat.mod_eq_of_lt (by omega)]
    · rw [h5]
      unfold dl
      rw [Nat.pow_zero, Nat.div_one]
end RSTRIP
