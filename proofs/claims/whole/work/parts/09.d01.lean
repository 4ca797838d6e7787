def wm_X12_putSign (a1 : Int32) (z : tq_S) (Q : tq_O → tq_S → Prop) : Prop := vp_in (tq_fi z 3279) 600 ∧ ∀ z1 : tq_S, z1 = tq_sai z 60 (upd (tq_ai z 60) (Int32.toNatClampNeg (tq_fi z 3279)) (vp_nar .char ((Int32.toUInt32 a1) % 65536).toInt32)) → ∀ z2 : tq_S, z2 = tq_sfi z1 3279 ((tq_fi z1 3279) + (1 : Int32)) → Q (.inl none) z2
theorem am_X12_putSign {K : Nat × (Nat → Int32)} {x : Nat} {z : tq_S} {Q : tq_O → tq_S → Prop} {a1 : Int32} (h : wm_X12_putSign a1 z Q) : tq_M K 0 x mm_X12_putSign [.ref 51, .int a1] z Q := by
  unfold wm_X12_putSign at h
  refine tq_enter (L := [.ref 51, .int a1]) mf_X12_putSign.1 rfl rfl (Nat.le_of_ble_eq_true rfl) ?_
  refine tq_s_aload_n (kk := 0) (by decide +kernel) rfl ?_
  refine fg_12_43_51 rfl (by decide +kernel) ?_
  refine tq_s_aload_n (kk := 0) (by decide +kernel) rfl ?_
  refine fg_12_209_51 rfl (by decide +kernel) ?_
  refine tq_s_iload_n (kk := 1) (by decide +kernel) rfl ?_
  refine tq_s_i2c (by decide +kernel) ?_
  refine tq_g_cast (by decide +kernel) sh_60 h.1 (fun z1 ez1 => ?_)
  replace h := h.2 z1 ez1
  refine tq_s_aload_n (kk := 0) (by decide +kernel) rfl ?_
  refine tq_s_dup (by decide +kernel) rfl ?_
  refine fg_12_209_51 rfl (by decide +kernel) ?_
  refine tq_k_ic (n := 1) (v := (1 : Int32)) (by decide +kernel) kc_1 ?_
  refine tq_s_iadd (by decide +kernel) ?_
  refine fp_12_209_51 rfl (by decide +kernel) (fun z2 ez2 => ?_)
  replace h := h z2 ez2
  exact tq_ret_v (st := []) (by decide +kernel) rfl h
def wc_X12_putDigits_36 (R : Int64 → tq_S → (tq_O → tq_S → Prop) → Prop) (Q : tq_O → tq_S → Prop) (a1 : Int64) (z : tq_S) : Prop := wm_X12_putSign ((48 : Int32) + (Int64.toInt32 (a1 - a1 / (10 : Int64) * (10 : Int64)))) z (tq_wv fun z101 => Q (.inl none) z101)
theorem ac_X12_putDigits_36 {K : Nat × (Nat → Int32)} {x : Nat} {Q : tq_O → tq_S → Prop} {n : Nat} {R : Int64 → tq_S → (tq_O → tq_S → Prop) → Prop} {a1 : Int64} {z : tq_S} (hR : ∀ (a1 : Int64) (z : tq_S) (Q : tq_O → tq_S → Prop), R a1 z Q → tq_M K (0 + n) 0 mm_X12_putDigits [.ref 51, .long a1] z Q) (h : wc_X12_putDigits_36 R Q a1 z) : tq_T K (0 + n + 1) x mm_X12_putDigits 36 [.ref 51, .long a1, .null] [] z Q := by
  unfold wc_X12_putDigits_36 at h
  refine tq_s_aload_n (kk := 0) (by decide +kernel) rfl ?_
  refine tq_k_bi (n := 48) (v := (48 : Int32)) (by decide +kernel) kb_48 ?_
  refine tq_s_lload_n (kk := 1) (by decide +kernel) rfl ?_
  refine tq_s_ldc2 (i := 221) (v := (10 : Int64)) (by decide +kernel) (by decide +kernel) ?_
  refine tq_s_lrem (by decide +kernel) (by decide +kernel) ?_
  refine tq_s_l2i (by decide +kernel) ?_
  refine tq_s_iadd (by decide +kernel) ?_
  refine tq_callV (as := [.int ((48 : Int32) + (Int64.toInt32 (a1 - a1 / (10 : Int64) * (10 : Int64))))]) (st := []) (d1 := 0) (x1 := 0) (x2 := x) (by decide +kernel) ln_12_216 mf_X12_putSign rfl sh_51 rfl (by decide) np_X12_putSign rfl (Nat.le_of_ble_eq_true rfl) (by omega) (Nat.zero_add _).symm (tq_M_mono (am_X12_putSign h) ?_)
  refine tq_wv_e (fun z101 h => ?_)
  exact tq_ret_v (st := []) (by decide +kernel) rfl h
def we_X12_putDigits (R : Int64 → tq_S → (tq_O → tq_S → Prop) → Prop) (a1 : Int64) (z : tq_S) (Q : tq_O → tq_S → Prop) : Prop := (((0 : Int64) ≤ a1 → ((a1 ≤ (9 : Int64) → wc_X12_putDigits_36 R Q a1 z) ∧ (¬ a1 ≤ (9 : Int64) → R (a1 / (10 : Int64)) z (tq_wv fun z1 => wc_X12_putDigits_36 R Q a1 z1)))) ∧ (¬ (0 : Int64) ≤ a1 → wm_X12_putSign (45 : Int32) z (tq_wv fun z2 => R (-a1) z2 (tq_wv fun z3 => Q (.inl none) z3))))
def wm_X12_putDigits : Nat → Int64 → tq_S → (tq_O → tq_S → Prop) → Prop
  | 0, _, _, _ => False
  | n + 1, a1, z, Q => we_X12_putDigits (wm_X12_putDigits n) a1 z Q
theorem ae_X12_putDigits {K : Nat × (Nat → Int32)} {x : Nat} {n : Nat} {R : Int64 → tq_S → (tq_O → tq_S → Prop) → Prop} {a1 : Int64} {z : tq_S} {Q : tq_O → tq_S → Prop} (hR : ∀ (a1 : Int64) (z : tq_S) (Q : tq_O → tq_S → Prop), R a1 z Q → tq_M K (0 + n) 0 mm_X12_putDigits [.ref 51, .long a1] z Q) (h : we_X12_putDigits R a1 z Q) : tq_M K (0 + n + 1) x mm_X12_putDigits [.ref 51, .long a1] z Q := by
  unfold we_X12_putDigits at h
  refine tq_enter (L := [.ref 51, .long a1, .null]) mf_X12_putDigits.1 rfl rfl (Nat.le_of_ble_eq_true rfl) ?_
  refine tq_s_lload_n (kk := 1) (by decide +kernel) rfl ?_
  refine tq_k_lc (n := 0) (v := (0 : Int64)) (by decide +kernel) (by decide +kernel) ?_
  refine tq_lcmp_ge (off := 16) (tgt := 19) (by decide +kernel) (by decide +kernel) (by decide +kernel) (fun hc => ?_) (fun hc => ?_)
  · replace h := h.1 hc
    refine tq_s_lload_n (kk := 1) (by decide +kernel) rfl ?_
    refine tq_s_ldc2 (i := 219) (v := (9 : Int64)) (by decide +kernel) (by decide +kernel) ?_
    refine tq_lcmp_le (off := 12) (tgt := 36) (by decide +kernel) (by decide +kernel) (by decide +kernel) (fun hc => ?_) (fun hc => ?_)
    · replace h := h.1 hc
      exact ac_X12_putDigits_36 hR h
    · replace h := h.2 hc
      refine tq_s_aload_n (kk := 0) (by decide +kernel) rfl ?_
      refine tq_s_lload_n (kk := 1) (by decide +kernel) rfl ?_
      refine tq_s_ldc2 (i := 221) (v := (10 : Int64)) (by decide +kernel) (by decide +kernel) ?_
      refine tq_s_ldiv (by decide +kernel) (by decide +kernel) ?_
      refine tq_callV (as := [.long (a1 / (10 : Int64))]) (st := []) (d1 := (0 + n)) (x1 := 0) (x2 := x) (by decide +kernel) ln_12_212 mf_X12_putDigits rfl sh_51 rfl (by decide) np_X12_putDigits rfl (Nat.le_of_ble_eq_true rfl) (by omega) (Nat.zero_add _).symm (tq_M_mono (hR _ _ _ h) ?_)
      refine tq_wv_e (fun z1 h => ?_)
      exact ac_X12_putDigits_36 hR h
  · replace h := h.2 hc
    refine tq_s_aload_n (kk := 0) (by decide +kernel) rfl ?_
    refine tq_k_bi (n := 45) (v := (45 : Int32)) (by decide +kernel) kb_45 ?_
    refine tq_callV (as := [.int (45 : Int32)]) (st := []) (d1 := 0) (x1 := 0) (x2 := x) (by decide +kernel) ln_12_216 mf_X12_putSign rfl sh_51 rfl (by decide) np_X12_putSign rfl (Nat.le_of_ble_eq_true rfl) (by omega) (Nat.zero_add _).symm (tq_M_mono (am_X12_putSign h) ?_)
    refine tq_wv_e (fun z2 h => ?_)
    refine tq_s_aload_n (kk := 0) (by decide +kernel) rfl ?_
    refine tq_s_lload_n (kk := 1) (by decide +kernel) rfl ?_
    refine tq_s_lneg (by decide +kernel) ?_
    refine tq_callV (as := [.long (-a1)]) (st := []) (d1 := (0 + n)) (x1 := 0) (x2 := x) (by decide +kernel) ln_12_212 mf_X12_putDigits rfl sh_51 rfl (by decide) np_X12_putDigits rfl (Nat.le_of_ble_eq_true rfl) (by omega) (Nat.zero_add _).symm (tq_M_mono (hR _ _ _ h) ?_)
    refine tq_wv_e (fun z3 h => ?_)
    exact tq_ret_v (st := []) (by decide +kernel) rfl h
theorem am_X12_putDigits {K : Nat × (Nat → Int32)} : ∀ (n : Nat) {x : Nat} {a1 : Int64} {z : tq_S} {Q : tq_O → tq_S → Prop} (h : wm_X12_putDigits n a1 z Q), tq_M K (0 + n) x mm_X12_putDigits [.ref 51, .long a1] z Q
  | 0, _, _, _, _, h => False.elim h
  | n + 1, _, _, _, _, h => ae_X12_putDigits (n := n) (fun _ _ _ h => am_X12_putDigits n h) h
def wm_X12_put (a1 : Int64) (z : tq_S) (Q : tq_O → tq_S → Prop) : Prop := ∀ z1 : tq_S, z1 = tq_sfi z 3279 (0 : Int32) → wm_X12_putDigits 40 a1 z1 (tq_wv fun z2 => Q (.inl (some (.int (tq_fi z2 3279)))) z2)
theorem am_X12_put {K : Nat × (Nat → Int32)} {x : Nat} {z : tq_S} {Q : tq_O → tq_S → Prop} {a1 : Int64} (h : wm_X12_put a1 z Q) : tq_M K 41 x mm_X12_put [.ref 51, .long a1] z Q := by
  unfold wm_X12_put at h
  refine tq_enter (L := [.ref 51, .long a1, .null]) mf_X12_put.1 rfl rfl (Nat.le_of_ble_eq_true rfl) ?_
  refine tq_s_aload_n (kk := 0) (by decide +kernel) rfl ?_
  refine tq_k_ic (n := 0) (v := (0 : Int32)) (by decide +kernel) kc_0 ?_
  refine fp_12_209_51 rfl (by decide +kernel) (fun z1 ez1 => ?_)
  replace h := h z1 ez1
  refine tq_s_aload_n (kk := 0) (by decide +kernel) rfl ?_
  refine tq_s_lload_n (kk := 1) (by decide +kernel) rfl ?_
  refine tq_callV (as := [.long a1]) (st := []) (d1 := 40) (x1 := 0) (x2 := x) (by decide +kernel) ln_12_212 mf_X12_putDigits rfl sh_51 rfl (by decide) np_X12_putDigits rfl (Nat.le_of_ble_eq_true rfl) (by decide) (Nat.zero_add _).symm (tq_M_mono (am_X12_putDigits 40 h) ?_)
  refine tq_wv_e (fun z2 h => ?_)
  refine tq_s_aload_n (kk := 0) (by decide +kernel) rfl ?_
  refine fg_12_209_51 rfl (by decide +kernel) ?_
  exact tq_ret_i (st := []) (by decide +kernel) rfl h
def wm_X12_covers  (z : tq_S) (Q : tq_O → tq_S → Prop) : Prop := ∀ z1 : tq_S, z1 = tq_sfi z 3264 (0 : Int32) → wm_X12_countAll z1 (tq_wl fun r3 z2 => wm_X12_put r3 z2 (tq_wi fun r5 z4 => Q (.inl (some (.int r5))) z4))
theorem am_X12_covers {K : Nat × (Nat → Int32)} {x : Nat} {z : tq_S} {Q : tq_O → tq_S → Prop}  (h : wm_X12_covers z Q) : tq_M K 43 x mm_X12_covers [.ref 51] z Q := by
  unfold wm_X12_covers at h
  refine tq_enter (L := [.ref 51]) mf_X12_covers.1 rfl rfl (Nat.le_of_ble_eq_true rfl) ?_
  refine tq_s_aload_n (kk := 0) (by decide +kernel) rfl ?_
  refine tq_k_ic (n := 0) (v := (0 : Int32)) (by decide +kernel) kc_0 ?_
  refine fp_12_129_51 rfl (by decide +kernel) (fun z1 ez1 => ?_)
  replace h := h z1 ez1
  refine tq_s_aload_n (kk := 0) (by decide +kernel) rfl ?_
  refine tq_s_aload_n (kk := 0) (by decide +kernel) rfl ?_
  refine tq_callV (as := []) (st := [.ref 51]) (d1 := 42) (x1 := 0) (x2 := x) (by decide +kernel) ln_12_223 mf_X12_countAll rfl sh_51 rfl (by decide) np_X12_countAll rfl (Nat.le_of_ble_eq_true rfl) (by decide) (Nat.zero_add _).symm (tq_M_mono (am_X12_countAll h) ?_)
  refine tq_wl_e (fun r3 z2 h => ?_)
  refine tq_callV (as := [.long r3]) (st := []) (d1 := 41) (x1 := 0) (x2 := x) (by decide +kernel) ln_12_226 mf_X12_put rfl sh_51 rfl (by decide) np_X12_put rfl (Nat.le_of_ble_eq_true rfl) (by decide) (Nat.zero_add _).symm (tq_M_mono (am_X12_put h) ?_)
  refine tq_wi_e (fun r5 z4 h => ?_)
  exact tq_ret_i (st := []) (by decide +kernel) rfl h
def wc_X12_isRolledOrHoled_20 (Q : tq_O → tq_S → Prop) (a1 : Int32) (s0 : Int32) (z : tq_S) : Prop := wm_X12_isThrown s0 a1 z (tq_wi fun r102 z101 => tq_nz r102 ∧ Q (.inl (some (.int r102))) z101)
theorem ac_X12_isRolledOrHoled_20 {K : Nat × (Nat → Int32)} {x : Nat} {Q : tq_O → tq_S → Prop} {a1 : Int32} {s0 : Int32} {z : tq_S} (h : wc_X12_isRolledOrHoled_20 Q a1 s0 z) : tq_T K 4 x mm_X12_isRolledOrHoled 20 [.null, .int a1] [.int s0, .ref 51] z Q := by
  unfold wc_X12_isRolledOrHoled_20 at h
  refine tq_s_iload_n (kk := 1) (by decide +kernel) rfl ?_
  refine tq_callV (as := [.int s0, .int a1]) (st := []) (d1 := 0) (x1 := 0) (x2 := x) (by decide +kernel) ln_12_152 mf_X12_isThrown rfl sh_51 rfl (by decide) np_X12_isThrown rfl (Nat.le_of_ble_eq_true rfl) (by decide) (Nat.zero_add _).symm (tq_M_mono (am_X12_isThrown h) ?_)
  refine tq_wi_e (fun r102 z101 h => ?_)
  exact tq_ret_z (st := []) (ty := .boolean) (by decide +kernel) (tq_nz_f h.1).1 rfl h.2
def wc_X12_isRolledOrHoled_15 (Q : tq_O → tq_S → Prop) (a1 : Int32) (z : tq_S) : Prop := wc_X12_isRolledOrHoled_20 Q a1 (1 : Int32) z
theorem ac_X12_isRolledOrHoled_15 {K : Nat × (Nat → Int32)} {x : Nat} {Q : tq_O → tq_S → Prop} {a1 : Int32} {z : tq_S} (h : wc_X12_isRolledOrHoled_15 Q a1 z) : tq_T K 4 x mm_X12_isRolledOrHoled 15 [.null, .int a1] [.ref 51] z Q := by
  unfold wc_X12_isRolledOrHoled_15 at h
  refine tq_k_ic (n := 1) (v := (1 : Int32)) (by decide +kernel) kc_1 ?_
  refine tq_s_goto (off := 4) (tgt := 20) (by decide +kernel) (by decide +kernel) ?_
  exact ac_X12_isRolledOrHoled_20 h
def wm_X12_isRolledOrHoled (a1 : Int32) (z : tq_S) (Q : tq_O → tq_S → Prop) : Prop := ((¬ (tq_fi z 3267) = 0 → wc_X12_isRolledOrHoled_15 Q a1 z) ∧ ((tq_fi z 3267) = 0 → wm_X12_holesOf z (tq_wi fun r2 z1 => ((r2 ≤ 0 → wc_X12_isRolledOrHoled_20 Q a1 (0 : Int32) z1) ∧ (¬ r2 ≤ 0 → wc_X12_isRolledOrHoled_15 Q a1 z1)))))
theorem am_X12_isRolledOrHoled {K : Nat × (Nat → Int32)} {x : Nat} {z : tq_S} {Q : tq_O → tq_S → Prop} {a1 : Int32} (h : wm_X12_isRolledOrHoled a1 z Q) : tq_M K 4 x mm_X12_isRolledOrHoled [.ref 51, .int a1] z Q := by
  unfold wm_X12_isRolledOrHoled at h
  refine tq_enter (L := [.ref 51, .int a1]) mf_X12_isRolledOrHoled.1 rfl rfl (Nat.le_of_ble_eq_true rfl) ?_
  refine tq_s_aload_n (kk := 0) (by decide +kernel) rfl ?_
  refine tq_s_aload_n (kk := 0) (by decide +kernel) rfl ?_
  refine fg_12_142_51 rfl (by decide +kernel) ?_
  refine tq_if_ne (off := 10) (tgt := 15) (by decide +kernel) (by decide +kernel) (fun hc => ?_) (fun hc => ?_)
  · replace h := h.1 hc
    exact tq_to (tq_ld1 (tq_lk1 tq_l0)) (ac_X12_isRolledOrHoled_15 h)
  · replace h := h.2 hc
    refine tq_s_aload_n (kk := 0) (by decide +kernel) rfl ?_
    refine tq_callV (as := []) (st := [.ref 51]) (d1 := 3) (x1 := 0) (x2 := x) (by decide +kernel) ln_12_188 mf_X12_holesOf rfl sh_51 rfl (by decide) np_X12_holesOf rfl (Nat.le_of_ble_eq_true rfl) (by decide) (Nat.zero_add _).symm (tq_M_mono (am_X12_holesOf h) ?_)
    refine tq_wi_e (fun r2 z1 h => ?_)
    refine tq_if_le (off := 7) (tgt := 19) (by decide +kernel) (by decide +kernel) (fun hc => ?_) (fun hc => ?_)
    · replace h := h.1 hc
      refine tq_k_ic (n := 0) (v := (0 : Int32)) (by decide +kernel) kc_0 ?_
      exact tq_to (tq_ld1 (tq_lk1 tq_l0)) (ac_X12_isRolledOrHoled_20 h)
    · replace h := h.2 hc
      exact tq_to (tq_ld1 (tq_lk1 tq_l0)) (ac_X12_isRolledOrHoled_15 h)
def wm_X12_bySigns  (z : tq_S) (Q : tq_O → tq_S → Prop) : Prop := wm_X12_isRolledOrHoled (1 : Int32) z (tq_wi fun r2 z1 => ((r2 = 0 → wm_X12_countAll z1 (tq_wl fun r4 z3 => wm_X12_put r4 z3 (tq_wi fun r6 z5 => Q (.inl (some (.int r6))) z5))) ∧ (¬ r2 = 0 → Q (.inl (some (.int (0 : Int32)))) z1)))
theorem am_X12_bySigns {K : Nat × (Nat → Int32)} {x : Nat} {z : tq_S} {Q : tq_O → tq_S → Prop}  (h : wm_X12_bySigns z Q) : tq_M K 43 x mm_X12_bySigns [.ref 51] z Q := by
  unfold wm_X12_bySigns at h
  refine tq_enter (L := [.ref 51]) mf_X12_bySigns.1 rfl rfl (Nat.le_of_ble_eq_true rfl) ?_
  refine tq_s_aload_n (kk := 0) (by decide +kernel) rfl ?_
  refine tq_k_ic (n := 1) (v := (1 : Int32)) (by decide +kernel) kc_1 ?_
  refine tq_callV (as := [.int (1 : Int32)]) (st := []) (d1 := 4) (x1 := 0) (x2 := x) (by decide +kernel) ln_12_230 mf_X12_isRolledOrHoled rfl sh_51 rfl (by decide) np_X12_isRolledOrHoled rfl (Nat.le_of_ble_eq_true rfl) (by decide) (Nat.zero_add _).symm (tq_M_mono (am_X12_isRolledOrHoled h) ?_)
  refine tq_wi_e (fun r2 z1 h => ?_)
  refine tq_if_eq (off := 7) (tgt := 12) (by decide +kernel) (by decide +kernel) (fun hc => ?_) (fun hc => ?_)
  · replace h := h.1 hc
    refine tq_s_aload_n (kk := 0) (by decide +kernel) rfl ?_
    refine tq_s_aload_n (kk := 0) (by decide +kernel) rfl ?_
    refine tq_callV (as := []) (st := [.ref 51]) (d1 := 42) (x1 := 0) (x2 := x) (by decide +kernel) ln_12_223 mf_X12_countAll rfl sh_51 rfl (by decide) np_X12_countAll rfl (Nat.le_of_ble_eq_true rfl) (by decide) (Nat.zero_add _).symm (tq_M_mono (am_X12_countAll h) ?_)
    refine tq_wl_e (fun r4 z3 h => ?_)
    refine tq_callV (as := [.long r4]) (st := []) (d1 := 41) (x1 := 0) (x2 := x) (by decide +kernel) ln_12_226 mf_X12_put rfl sh_51 rfl (by decide) np_X12_put rfl (Nat.le_of_ble_eq_true rfl) (by decide) (Nat.zero_add _).symm (tq_M_mono (am_X12_put h) ?_)
    refine tq_wi_e (fun r6 z5 h => ?_)
    exact tq_ret_i (st := []) (by decide +kernel) rfl h
  · replace h := h.2 hc
    refine tq_k_ic (n := 0) (v := (0 : Int32)) (by decide +kernel) kc_0 ?_
    refine tq_s_goto (off := 11) (tgt := 20) (by decide +kernel) (by decide +kernel) ?_
    exact tq_ret_i (st := []) (by decide +kernel) rfl h
def wc_X12_pieceOther_27 (Q : tq_O → tq_S → Prop) (s0 : Int32) (s1 : Int32) (z : tq_S) : Prop := wm_X12_beside s1 s0 z (tq_wi fun r102 z101 => ((r102 = (-1 : Int32) → Q (.inl (some (.int (-1 : Int32)))) z101) ∧ (¬ r102 = (-1 : Int32) → vp_in r102 64 ∧ (((tq_ai z101 52 (Int32.toNatClampNeg r102)) = 0 → Q (.inl (some (.int (-1 : Int32)))) z101) ∧ (¬ (tq_ai z101 52 (Int32.toNatClampNeg r102)) = 0 → Q (.inl (some (.int r102))) z101)))))
theorem ac_X12_pieceOther_27 {K : Nat × (Nat → Int32)} {x : Nat} {Q : tq_O → tq_S → Prop} {s0 : Int32} {s1 : Int32} {z : tq_S} (h : wc_X12_pieceOther_27 Q s0 s1 z) : tq_T K 2 x mm_X12_pieceOther 27 [.ref 51, .null, .null, .null, .null] [.int s0, .int s1, .ref 51] z Q := by
  unfold wc_X12_pieceOther_27 at h
  refine tq_callV (as := [.int s1, .int s0]) (st := []) (d1 := 1) (x1 := 0) (x2 := x) (by decide +kernel) ln_12_184 mf_X12_beside rfl sh_51 rfl (by decide) np_X12_beside rfl (Nat.le_of_ble_eq_true rfl) (by decide) (Nat.zero_add _).symm (tq_M_mono (am_X12_beside h) ?_)
  refine tq_wi_e (fun r102 z101 h => ?_)
  refine tq_s_istore (i := 4) (L9 := [.ref 51, .null, .null, .null, .int r102]) (by decide +kernel) (by decide) rfl ?_
  refine tq_s_iload (i := 4) (by decide +kernel) rfl ?_
  refine tq_k_ic (n := -1) (v := (-1 : Int32)) (by decide +kernel) kc_m1 ?_
  refine tq_icmp_eq (off := 18) (tgt := 53) (by decide +kernel) (by decide +kernel) (fun hc => ?_) (fun hc => ?_)
  · replace h := h.1 hc
    refine tq_k_ic (n := -1) (v := (-1 : Int32)) (by decide +kernel) kc_m1 ?_
    exact tq_ret_i (st := []) (by decide +kernel) rfl h
  · replace h := h.2 hc
    refine tq_s_aload_n (kk := 0) (by decide +kernel) rfl ?_
    refine fg_12_16_51 rfl (by decide +kernel) ?_
    refine tq_s_iload (i := 4) (by decide +kernel) rfl ?_
    refine tq_s_zald (by decide +kernel) sh_52 h.1 ?_
    replace h := h.2
    refine tq_if_eq (off := 8) (tgt := 53) (by decide +kernel) (by decide +kernel) (fun hc => ?_) (fun hc => ?_)
    · replace h := h.1 hc
      refine tq_k_ic (n := -1) (v := (-1 : Int32)) (by decide +kernel) kc_m1 ?_
      exact tq_ret_i (st := []) (by decide +kernel) rfl h
    · replace h := h.2 hc
      refine tq_s_iload (i := 4) (by decide +kernel) rfl ?_
      refine tq_s_goto (off := 4) (tgt := 54) (by decide +kernel) (by decide +kernel) ?_
      exact tq_ret_i (st := []) (by decide +kernel) rfl h
def wm_X12_pieceOther (a1 : Int32) (a2 : Int32) (a3 : Int32) (z : tq_S) (Q : tq_O → tq_S → Prop) : Prop := wm_X12_isCell a1 a2 z (tq_wi fun r2 z1 => ((¬ r2 = 0 → ((a3 = 0 → wc_X12_pieceOther_27 Q (2 : Int32) (((8 : Int32) * a2) + a1) z1) ∧ (¬ a3 = 0 → wc_X12_pieceOther_27 Q (0 : Int32) (((8 : Int32) * a2) + a1) z1))) ∧ (r2 = 0 → Q (.inl (some (.int (-1 : Int32)))) z1)))
theorem am_X12_pieceOther {K : Nat × (Nat → Int32)} {x : Nat} {z : tq_S} {Q : tq_O → tq_S → Prop} {a1 : Int32} {a2 : Int32} {a3 : Int32} (h : wm_X12_pieceOther a1 a2 a3 z Q) : tq_M K 2 x mm_X12_pieceOther [.ref 51, .int a1, .int a2, .int a3] z Q := by
  unfold wm_X12_pieceOther at h
  refine tq_enter (L := [.ref 51, .int a1, .int a2, .int a3, .null]) mf_X12_pieceOther.1 rfl rfl (Nat.le_of_ble_eq_true rfl) ?_
  refine tq_s_aload_n (kk := 0) (by decide +kernel) rfl ?_
  refine tq_s_iload_n (kk := 1) (by decide +kernel) rfl ?_
  refine tq_s_iload_n (kk := 2) (by decide +kernel) rfl ?_
  refine tq_callV (as := [.int a1, .int a2]) (st := []) (d1 := 1) (x1 := 0) (x2 := x) (by decide +kernel) ln_12_164 mf_X12_isCell rfl sh_51 rfl (by decide) np_X12_isCell rfl (Nat.le_of_ble_eq_true rfl) (by decide) (Nat.zero_add _).symm (tq_M_mono (am_X12_isCell h) ?_)
  refine tq_wi_e (fun r2 z1 h => ?_)
  refine tq_if_ne (off := 5) (tgt := 11) (by decide +kernel) (by decide +kernel) (fun hc => ?_) (fun hc => ?_)
  · replace h := h.1 hc
    refine tq_s_aload_n (kk := 0) (by decide +kernel) rfl ?_
    refine tq_k_bi (n := 8) (v := (8 : Int32)) (by decide +kernel) kb_8 ?_
    refine tq_s_iload_n (kk := 2) (by decide +kernel) rfl ?_
    refine tq_s_imul (by decide +kernel) ?_
    refine tq_s_iload_n (kk := 1) (by decide +kernel) rfl ?_
    refine tq_s_iadd (by decide +kernel) ?_
    refine tq_s_iload_n (kk := 3) (by decide +kernel) rfl ?_
    refine tq_if_eq (off := 7) (tgt := 26) (by decide +kernel) (by decide +kernel) (fun hc => ?_) (fun hc => ?_)
    · replace h := h.1 hc
      refine tq_k_ic (n := 2) (v := (2 : Int32)) (by decide +kernel) kc_2 ?_
      exact tq_to (tq_lk1 (tq_ld1 (tq_ld1 (tq_ld1 (tq_lk1 tq_l0))))) (ac_X12_pieceOther_27 h)
    · replace h := h.2 hc
      refine tq_k_ic (n := 0) (v := (0 : Int32)) (by decide +kernel) kc_0 ?_
      refine tq_s_goto (off := 4) (tgt := 27) (by decide +kernel) (by decide +kernel) ?_
      exact tq_to (tq_lk1 (tq_ld1 (tq_ld1 (tq_ld1 (tq_lk1 tq_l0))))) (ac_X12_pieceOther_27 h)
  · replace h := h.2 hc
    refine tq_k_ic (n := -1) (v := (-1 : Int32)) (by decide +kernel) kc_m1 ?_
    exact tq_ret_i (st := []) (by decide +kernel) rfl h
def wm_X12_countWith (a1 : Int32) (a2 : Int32) (z : tq_S) (Q : tq_O → tq_S → Prop) : Prop := wm_X12_all z (tq_wv fun z1 => vp_in a1 64 ∧ ∀ z2 : tq_S, z2 = tq_sai z1 53 (upd (tq_ai z1 53) (Int32.toNatClampNeg a1) (vp_nar .boolean (0 : Int32))) → vp_in a2 64 ∧ ∀ z3 : tq_S, z3 = tq_sai z2 53 (upd (tq_ai z2 53) (Int32.toNatClampNeg a2) (vp_nar .boolean (0 : Int32))) → wm_X12_count z3 (tq_wl fun r5 z4 => Q (.inl (some (.long r5))) z4))
theorem am_X12_countWith {K : Nat × (Nat → Int32)} {x : Nat} {z : tq_S} {Q : tq_O → tq_S → Prop} {a1 : Int32} {a2 : Int32} (h : wm_X12_countWith a1 a2 z Q) : tq_M K 42 x mm_X12_countWith [.ref 51, .int a1, .int a2] z Q := by
  unfold wm_X12_countWith at h
  refine tq_enter (L := [.ref 51, .int a1, .int a2]) mf_X12_countWith.1 rfl rfl (Nat.le_of_ble_eq_true rfl) ?_
  refine tq_s_aload_n (kk := 0) (by decide +kernel) rfl ?_
  refine tq_callV (as := []) (st := []) (d1 := 0) (x1 := 0) (x2 := x) (by decide +kernel) ln_12_202 mf_X12_all rfl sh_51 rfl (by decide) np_X12_all rfl (Nat.le_of_ble_eq_true rfl) (by decide) (Nat.zero_add _).symm (tq_M_mono (am_X12_all h) ?_)
  refine tq_wv_e (fun z1 h => ?_)
  refine tq_s_aload_n (kk := 0) (by decide +kernel) rfl ?_
  refine fg_12_20_51 rfl (by decide +kernel) ?_
  refine tq_s_iload_n (kk := 1) (by decide +kernel) rfl ?_
  refine tq_k_ic (n := 0) (v := (0 : Int32)) (by decide +kernel) kc_0 ?_
  refine tq_g_zast (by decide +kernel) sh_53 h.1 (fun z2 ez2 => ?_)
  replace h := h.2 z2 ez2
  refine tq_s_aload_n (kk := 0) (by decide +kernel) rfl ?_
  refine fg_12_20_51 rfl (by decide +kernel) ?_
  refine tq_s_iload_n (kk := 2) (by decide +kernel) rfl ?_
  refine tq_k_ic (n := 0) (v := (0 : Int32)) (by decide +kernel) kc_0 ?_
  refine tq_g_zast (by decide +kernel) sh_53 h.1 (fun z3 ez3 => ?_)
  replace h := h.2 z3 ez3
  refine tq_s_aload_n (kk := 0) (by decide +kernel) rfl ?_
  refine tq_callV (as := []) (st := []) (d1 := 41) (x1 := 0) (x2 := x) (by decide +kernel) ln_12_205 mf_X12_count rfl sh_51 rfl (by decide) np_X12_count rfl (Nat.le_of_ble_eq_true rfl) (by decide) (Nat.zero_add _).symm (tq_M_mono (am_X12_count h) ?_)
  refine tq_wl_e (fun r5 z4 h => ?_)
  exact tq_ret_l (st := []) (by decide +kernel) rfl h
def wc_X12_having_21 (Q : tq_O → tq_S → Prop) (a1 : Int32) (a2 : Int32) (a4 : Int32) (s0 : Int32) (z : tq_S) : Prop := wm_X12_isThrown s0 (1 : Int32) z (tq_wi fun r102 z101 => ((r102 = 0 → wm_X12_countWith (((8 : Int32) * a2) + a1) a4 z101 (tq_wl fun r104 z103 => wm_X12_put r104 z103 (tq_wi fun r106 z105 => Q (.inl (some (.int r106))) z105))) ∧ (¬ r102 = 0 → Q (.inl (some (.int (0 : Int32)))) z101)))
theorem ac_X12_having_21 {K : Nat × (Nat → Int32)} {x : Nat} {Q : tq_O → tq_S → Prop} {a1 : Int32} {a2 : Int32} {a4 : Int32} {s0 : Int32} {z : tq_S} (h : wc_X12_having_21 Q a1 a2 a4 s0 z) : tq_T K 43 x mm_X12_having 21 [.ref 51, .int a1, .int a2, .null, .int a4] [.int s0, .ref 51] z Q := by
  unfold wc_X12_having_21 at h
  refine tq_k_ic (n := 1) (v := (1 : Int32)) (by decide +kernel) kc_1 ?_
  refine tq_callV (as := [.int s0, .int (1 : Int32)]) (st := []) (d1 := 0) (x1 := 0) (x2 := x) (by decide +kernel) ln_12_152 mf_X12_isThrown rfl sh_51 rfl (by decide) np_X12_isThrown rfl (Nat.le_of_ble_eq_true rfl) (by decide) (Nat.zero_add _).symm (tq_M_mono (am_X12_isThrown h) ?_)
  refine tq_wi_e (fun r102 z101 h => ?_)
  refine tq_if_eq (off := 7) (tgt := 32) (by decide +kernel) (by decide +kernel) (fun hc => ?_) (fun hc => ?_)
  · replace h := h.1 hc
    refine tq_s_aload_n (kk := 0) (by decide +kernel) rfl ?_
    refine tq_s_aload_n (kk := 0) (by decide +kernel) rfl ?_
    refine tq_k_bi (n := 8) (v := (8 : Int32)) (by decide +kernel) kb_8 ?_
    refine tq_s_iload_n (kk := 2) (by decide +kernel) rfl ?_
    refine tq_s_imul (by decide +kernel) ?_
    refine tq_s_iload_n (kk := 1) (by decide +kernel) rfl ?_
    refine tq_s_iadd (by decide +kernel) ?_
    refine tq_s_iload (i := 4) (by decide +kernel) rfl ?_
    refine tq_callV (as := [.int (((8 : Int32) * a2) + a1), .int a4]) (st := [.ref 51]) (d1 := 42) (x1 := 0) (x2 := x) (by decide +kernel) ln_12_237 mf_X12_countWith rfl sh_51 rfl (by decide) np_X12_countWith rfl (Nat.le_of_ble_eq_true rfl) (by decide) (Nat.zero_add _).symm (tq_M_mono (am_X12_countWith h) ?_)
    refine tq_wl_e (fun r104 z103 h => ?_)
    refine tq_callV (as := [.long r104]) (st := []) (d1 := 41) (x1 := 0) (x2 := x) (by decide +kernel) ln_12_226 mf_X12_put rfl sh_51 rfl (by decide) np_X12_put rfl (Nat.le_of_ble_eq_true rfl) (by decide) (Nat.zero_add _).symm (tq_M_mono (am_X12_put h) ?_)
    refine tq_wi_e (fun r106 z105 h => ?_)
    exact tq_ret_i (st := []) (by decide +kernel) rfl h
  · replace h := h.2 hc
    refine tq_k_ic (n := 0) (v := (0 : Int32)) (by decide +kernel) kc_0 ?_
    refine tq_s_goto (off := 19) (tgt := 48) (by decide +kernel) (by decide +kernel) ?_
    exact tq_ret_i (st := []) (by decide +kernel) rfl h
def wm_X12_having (a1 : Int32) (a2 : Int32) (a3 : Int32) (z : tq_S) (Q : tq_O → tq_S → Prop) : Prop := wm_X12_pieceOther a1 a2 a3 z (tq_wi fun r2 z1 => ((¬ r2 = (-1 : Int32) → wc_X12_having_21 Q a1 a2 r2 (0 : Int32) z1) ∧ (r2 = (-1 : Int32) → wc_X12_having_21 Q a1 a2 r2 (1 : Int32) z1)))
theorem am_X12_having {K : Nat × (Nat → Int32)} {x : Nat} {z : tq_S} {Q : tq_O → tq_S → Prop} {a1 : Int32} {a2 : Int32} {a3 : Int32} (h : wm_X12_having a1 a2 a3 z Q) : tq_M K 43 x mm_X12_having [.ref 51, .int a1, .int a2, .int a3] z Q := by
  unfold wm_X12_having at h
  refine tq_enter (L := [.ref 51, .int a1, .int a2, .int a3, .null]) mf_X12_having.1 rfl rfl (Nat.le_of_ble_eq_true rfl) ?_
  refine tq_s_aload_n (kk := 0) (by decide +kernel) rfl ?_
  refine tq_s_iload_n (kk := 1) (by decide +kernel) rfl ?_
  refine tq_s_iload_n (kk := 2) (by decide +kernel) rfl ?_
  refine tq_s_iload_n (kk := 3) (by decide +kernel) rfl ?_
  refine tq_callV (as := [.int a1, .int a2, .int a3]) (st := []) (d1 := 2) (x1 := 0) (x2 := x) (by decide +kernel) ln_12_233 mf_X12_pieceOther rfl sh_51 rfl (by decide) np_X12_pieceOther rfl (Nat.le_of_ble_eq_true rfl) (by decide) (Nat.zero_add _).symm (tq_M_mono (am_X12_pieceOther h) ?_)
  refine tq_wi_e (fun r2 z1 h => ?_)
  refine tq_s_istore (i := 4) (L9 := [.ref 51, .int a1, .int a2, .int a3, .int r2]) (by decide +kernel) (by decide) rfl ?_
  refine tq_s_aload_n (kk := 0) (by decide +kernel) rfl ?_
  refine tq_s_iload (i := 4) (by decide +kernel) rfl ?_
  refine tq_k_ic (n := -1) (v := (-1 : Int32)) (by decide +kernel) kc_m1 ?_
  refine tq_icmp_ne (off := 7) (tgt := 20) (by decide +kernel) (by decide +kernel) (fun hc => ?_) (fun hc => ?_)
  · replace h := h.1 hc
    refine tq_k_ic (n := 0) (v := (0 : Int32)) (by decide +kernel) kc_0 ?_
    exact tq_to (tq_lk1 (tq_lk1 (tq_lk1 (tq_ld1 (tq_lk1 tq_l0))))) (ac_X12_having_21 h)
  · replace h := h.2 hc
    refine tq_k_ic (n := 1) (v := (1 : Int32)) (by decide +kernel) kc_1 ?_
    refine tq_s_goto (off := 4) (tgt := 21) (by decide +kernel) (by decide +kernel) ?_
    exact tq_to (tq_lk1 (tq_lk1 (tq_lk1 (tq_ld1 (tq_lk1 tq_l0))))) (ac_X12_having_21 h)
def wc_X12_share_49 (Q : tq_O → tq_S → Prop) (a1 : Int32) (a2 : Int32) (a4 : Int32) (a5 : Int64) (s0 : Int32) (z : tq_S) : Prop := wm_X12_isThrown s0 (2 : Int32) z (tq_wi fun r102 z101 => ((r102 = 0 → wm_X12_countWith (((8 : Int32) * a2) + a1) a4 z101 (tq_wl fun r104 z103 => vf_n32 (FP.fdiv (FP.l2f r104) (FP.l2f a5)) ∧ Q (.inl (some (.float (FP.fdiv (FP.l2f r104) (FP.l2f a5))))) z103)) ∧ (¬ r102 = 0 → Q (.inl (some (.float FP.fconst0))) z101)))
theorem ac_X12_share_49 {K : Nat × (Nat → Int32)} {x : Nat} {Q : tq_O → tq_S → Prop} {a1 : Int32} {a2 : Int32} {a4 : Int32} {a5 : Int64} {s0 : Int32} {z : tq_S} (h : wc_X12_share_49 Q a1 a2 a4 a5 s0 z) : tq_T K 43 x mm_X12_share 49 [.ref 51, .int a1, .int a2, .null, .int a4, .long a5, .null] [.int s0, .ref 51] z Q := by
  unfold wc_X12_share_49 at h
  refine tq_k_ic (n := 2) (v := (2 : Int32)) (by decide +kernel) kc_2 ?_
  refine tq_callV (as := [.int s0, .int (2 : Int32)]) (st := []) (d1 := 0) (x1 := 0) (x2 := x) (by decide +kernel) ln_12_152 mf_X12_isThrown rfl sh_51 rfl (by decide) np_X12_isThrown rfl (Nat.le_of_ble_eq_true rfl) (by decide) (Nat.zero_add _).symm (tq_M_mono (am_X12_isThrown h) ?_)
  refine tq_wi_e (fun r102 z101 h => ?_)
  refine tq_if_eq (off := 7) (tgt := 60) (by decide +kernel) (by decide +kernel) (fun hc => ?_) (fun hc => ?_)
  · replace h := h.1 hc
    refine tq_s_aload_n (kk := 0) (by decide +kernel) rfl ?_
    refine tq_k_bi (n := 8) (v := (8 : Int32)) (by decide +kernel) kb_8 ?_
    refine tq_s_iload_n (kk := 2) (by decide +kernel) rfl ?_
    refine tq_s_imul (by decide +kernel) ?_
    refine tq_s_iload_n (kk := 1) (by decide +kernel) rfl ?_
    refine tq_s_iadd (by decide +kernel) ?_
    refine tq_s_iload (i := 4) (by decide +kernel) rfl ?_
    refine tq_callV (as := [.int (((8 : Int32) * a2) + a1), .int a4]) (st := []) (d1 := 42) (x1 := 0) (x2 := x) (by decide +kernel) ln_12_237 mf_X12_countWith rfl sh_51 rfl (by decide) np_X12_countWith rfl (Nat.le_of_ble_eq_true rfl) (by decide) (Nat.zero_add _).symm (tq_M_mono (am_X12_countWith h) ?_)
    refine tq_wl_e (fun r104 z103 h => ?_)
    refine tq_s_l2f (by decide +kernel) ?_
    refine tq_s_lload (i := 5) (by decide +kernel) rfl ?_
    refine tq_s_l2f (by decide +kernel) ?_
    refine tq_s_fdiv (by decide +kernel) h.1 ?_
    replace h := h.2
    exact tq_ret_f (st := []) (by decide +kernel) rfl h
  · replace h := h.2 hc
    refine tq_s_fconst0 (by decide +kernel) ?_
    refine tq_s_goto (off := 20) (tgt := 77) (by decide +kernel) (by decide +kernel) ?_
    exact tq_ret_f (st := []) (by decide +kernel) rfl h
def wc_X12_share_21 (Q : tq_O → tq_S → Prop) (a1 : Int32) (a2 : Int32) (a4 : Int32) (s0 : Int32) (z : tq_S) : Prop := wm_X12_isThrown s0 (1 : Int32) z (tq_wi fun r102 z101 => ((r102 = 0 → wm_X12_countAll z101 (tq_wl fun r104 z103 => ((¬ r104 = (0 : Int64) → wc_X12_share_49 Q a1 a2 a4 r104 (0 : Int32) z103) ∧ (r104 = (0 : Int64) → wc_X12_share_49 Q a1 a2 a4 r104 (1 : Int32) z103)))) ∧ (¬ r102 = 0 → Q (.inl (some (.float FP.fconst0))) z101)))
theorem ac_X12_share_21 {K : Nat × (Nat → Int32)} {x : Nat} {Q : tq_O → tq_S → Prop} {a1 : Int32} {a2 : Int32} {a4 : Int32} {s0 : Int32} {z : tq_S} (h : wc_X12_share_21 Q a1 a2 a4 s0 z) : tq_T K 43 x mm_X12_share 21 [.ref 51, .int a1, .int a2, .null, .int a4, .null, .null] [.int s0, .ref 51] z Q := by
  unfold wc_X12_share_21 at h
  refine tq_k_ic (n := 1) (v := (1 : Int32)) (by decide +kernel) kc_1 ?_
  refine tq_callV (as := [.int s0, .int (1 : Int32)]) (st := []) (d1 := 0) (x1 := 0) (x2 := x) (by decide +kernel) ln_12_152 mf_X12_isThrown rfl sh_51 rfl (by decide) np_X12_isThrown rfl (Nat.le_of_ble_eq_true rfl) (by decide) (Nat.zero_add _).symm (tq_M_mono (am_X12_isThrown h) ?_)
  refine tq_wi_e (fun r102 z101 h => ?_)
  refine tq_if_eq (off := 5) (tgt := 30) (by decide +kernel) (by decide +kernel) (fun hc => ?_) (fun hc => ?_)
  · replace h := h.1 hc
    refine tq_s_aload_n (kk := 0) (by decide +kernel) rfl ?_
    refine tq_callV (as := []) (st := []) (d1 := 42) (x1 := 0) (x2 := x) (by decide +kernel) ln_12_223 mf_X12_countAll rfl sh_51 rfl (by decide) np_X12_countAll rfl (Nat.le_of_ble_eq_true rfl) (by decide) (Nat.zero_add _).symm (tq_M_mono (am_X12_countAll h) ?_)
    refine tq_wl_e (fun r104 z103 h => ?_)
    refine tq_s_lstore (i := 5) (L9 := [.ref 51, .int a1, .int a2, .null, .int a4, .long r104, .null]) (by decide +kernel) (by decide) rfl ?_
    refine tq_s_aload_n (kk := 0) (by decide +kernel) rfl ?_
    refine tq_s_lload (i := 5) (by decide +kernel) rfl ?_
    refine tq_k_lc (n := 0) (v := (0 : Int64)) (by decide +kernel) (by decide +kernel) ?_
    refine tq_lcmp_ne (off := 7) (tgt := 48) (by decide +kernel) (by decide +kernel) (by decide +kernel) (fun hc => ?_) (fun hc => ?_)
    · replace h := h.1 hc
      refine tq_k_ic (n := 0) (v := (0 : Int32)) (by decide +kernel) kc_0 ?_
      exact ac_X12_share_49 h
    · replace h := h.2 hc
      refine tq_k_ic (n := 1) (v := (1 : Int32)) (by decide +kernel) kc_1 ?_
      refine tq_s_goto (off := 4) (tgt := 49) (by decide +kernel) (by decide +kernel) ?_
      exact ac_X12_share_49 h
  · replace h := h.2 hc
    refine tq_s_fconst0 (by decide +kernel) ?_
    exact tq_ret_f (st := []) (by decide +kernel) rfl h
def wm_X12_share (a1 : Int32) (a2 : Int32) (a3 : Int32) (z : tq_S) (Q : tq_O → tq_S → Prop) : Prop := wm_X12_pieceOther a1 a2 a3 z (tq_wi fun r2 z1 => ((¬ r2 = (-1 : Int32) → wc_X12_share_21 Q a1 a2 r2 (0 : Int32) z1) ∧ (r2 = (-1 : Int32) → wc_X12_share_21 Q a1 a2 r2 (1 : Int32) z1)))
theorem am_X12_share {K : Nat × (Nat → Int32)} {x : Nat} {z : tq_S} {Q : tq_O → tq_S → Prop} {a1 : Int32} {a2 : Int32} {a3 : Int32} (h : wm_X12_share a1 a2 a3 z Q) : tq_M K 43 x mm_X12_share [.ref 51, .int a1, .int a2, .int a3] z Q := by
  unfold wm_X12_share at h
  refine tq_enter (L := [.ref 51, .int a1, .int a2, .int a3, .null, .null, .null]) mf_X12_share.1 rfl rfl (Nat.le_of_ble_eq_true rfl) ?_
  refine tq_s_aload_n (kk := 0) (by decide +kernel) rfl ?_
  refine tq_s_iload_n (kk := 1) (by decide +kernel) rfl ?_
  refine tq_s_iload_n (kk := 2) (by decide +kernel) rfl ?_
  refine tq_s_iload_n (kk := 3) (by decide +kernel) rfl ?_
  refine tq_callV (as := [.int a1, .int a2, .int a3]) (st := []) (d1 := 2) (x1 := 0) (x2 := x) (by decide +kernel) ln_12_233 mf_X12_pieceOther rfl sh_51 rfl (by decide) np_X12_pieceOther rfl (Nat.le_of_ble_eq_true rfl) (by decide) (Nat.zero_add _).symm (tq_M_mono (am_X12_pieceOther h) ?_)
  refine tq_wi_e (fun r2 z1 h => ?_)
  refine tq_s_istore (i := 4) (L9 := [.ref 51, .int a1, .int a2, .int a3, .int r2, .null, .null]) (by decide +kernel) (by decide) rfl ?_
  refine tq_s_aload_n (kk := 0) (by decide +kernel) rfl ?_
  refine tq_s_iload (i := 4) (by decide +kernel) rfl ?_
  refine tq_k_ic (n := -1) (v := (-1 : Int32)) (by decide +kernel) kc_m1 ?_
  refine tq_icmp_ne (off := 7) (tgt := 20) (by decide +kernel) (by decide +kernel) (fun hc => ?_) (fun hc => ?_)
  · replace h := h.1 hc
    refine tq_k_ic (n := 0) (v := (0 : Int32)) (by decide +kernel) kc_0 ?_
    exact tq_to (tq_lk1 (tq_lk1 (tq_lk1 (tq_ld1 (tq_lk1 (tq_lk1 (tq_lk1 tq_l0))))))) (ac_X12_share_21 h)
  · replace h := h.2 hc
    refine tq_k_ic (n := 1) (v := (1 : Int32)) (by decide +kernel) kc_1 ?_
    refine tq_s_goto (off := 4) (tgt := 21) (by decide +kernel) (by decide +kernel) ?_
    exact tq_to (tq_lk1 (tq_lk1 (tq_lk1 (tq_ld1 (tq_lk1 (tq_lk1 (tq_lk1 tq_l0))))))) (ac_X12_share_21 h)
def wc_X12_signAt_20 (Q : tq_O → tq_S → Prop) (a1 : Int32) (s0 : Int32) (z : tq_S) : Prop := wm_X12_isThrown s0 (1 : Int32) z (tq_wi fun r102 z101 => ((r102 = 0 → vp_in a1 600 ∧ tq_nf 2 (tq_ai z101 60 (Int32.toNatClampNeg a1)) ∧ Q (.inl (some (.int (tq_ai z101 60 (Int32.toNatClampNeg a1))))) z101) ∧ (¬ r102 = 0 → Q (.inl (some (.int (45 : Int32)))) z101)))
theorem ac_X12_signAt_20 {K : Nat × (Nat → Int32)} {x : Nat} {Q : tq_O → tq_S → Prop} {a1 : Int32} {s0 : Int32} {z : tq_S} (h : wc_X12_signAt_20 Q a1 s0 z) : tq_T K 1 x mm_X12_signAt 20 [.ref 51, .int a1] [.int s0, .ref 51] z Q := by
  unfold wc_X12_signAt_20 at h
  refine tq_k_ic (n := 1) (v := (1 : Int32)) (by decide +kernel) kc_1 ?_
  refine tq_callV (as := [.int s0, .int (1 : Int32)]) (st := []) (d1 := 0) (x1 := 0) (x2 := x) (by decide +kernel) ln_12_152 mf_X12_isThrown rfl sh_51 rfl (by decide) np_X12_isThrown rfl (Nat.le_of_ble_eq_true rfl) (by decide) (Nat.zero_add _).symm (tq_M_mono (am_X12_isThrown h) ?_)
  refine tq_wi_e (fun r102 z101 h => ?_)
  refine tq_if_eq (off := 8) (tgt := 32) (by decide +kernel) (by decide +kernel) (fun hc => ?_) (fun hc => ?_)
  · replace h := h.1 hc
    refine tq_s_aload_n (kk := 0) (by decide +kernel) rfl ?_
    refine fg_12_43_51 rfl (by decide +kernel) ?_
    refine tq_s_iload_n (kk := 1) (by decide +kernel) rfl ?_
    refine tq_s_cald (by decide +kernel) sh_60 h.1 ?_
    replace h := h.2
    exact tq_ret_z (st := []) (ty := .char) (by decide +kernel) h.1.1 rfl h.2
  · replace h := h.2 hc
    refine tq_k_bi (n := 45) (v := (45 : Int32)) (by decide +kernel) kb_45 ?_
    refine tq_s_goto (off := 9) (tgt := 38) (by decide +kernel) (by decide +kernel) ?_
    exact tq_ret_z (st := []) (ty := .char) (by decide +kernel) (by decide +kernel) rfl h
def wm_X12_signAt (a1 : Int32) (z : tq_S) (Q : tq_O → tq_S → Prop) : Prop := wm_X12_isIn a1 (0 : Int32) ((tq_fi z 3279) - (1 : Int32)) z (tq_wi fun r2 z1 => ((¬ r2 = 0 → wc_X12_signAt_20 Q a1 (0 : Int32) z1) ∧ (r2 = 0 → wc_X12_signAt_20 Q a1 (1 : Int32) z1)))
theorem am_X12_signAt {K : Nat × (Nat → Int32)} {x : Nat} {z : tq_S} {Q : tq_O → tq_S → Prop} {a1 : Int32} (h : wm_X12_signAt a1 z Q) : tq_M K 1 x mm_X12_signAt [.ref 51, .int a1] z Q := by
  unfold wm_X12_signAt at h
  refine tq_enter (L := [.ref 51, .int a1]) mf_X12_signAt.1 rfl rfl (Nat.le_of_ble_eq_true rfl) ?_
  refine tq_s_aload_n (kk := 0) (by decide +kernel) rfl ?_
  refine tq_s_iload_n (kk := 1) (by decide +kernel) rfl ?_
  refine tq_k_ic (n := 0) (v := (0 : Int32)) (by decide +kernel) kc_0 ?_
  refine tq_s_aload_n (kk := 0) (by decide +kernel) rfl ?_
  refine fg_12_209_51 rfl (by decide +kernel) ?_
  refine tq_k_ic (n := 1) (v := (1 : Int32)) (by decide +kernel) kc_1 ?_
  refine tq_s_isub (by decide +kernel) ?_
  refine tq_callS (as := [.int a1, .int (0 : Int32), .int ((tq_fi z 3279) - (1 : Int32))]) (st := [.ref 51]) (d1 := 0) (x1 := 0) (x2 := x) (by decide +kernel) ln_12_148 mf_X12_isIn rfl (by decide) np_X12_isIn rfl (Nat.le_of_ble_eq_true rfl) (by decide) (Nat.zero_add _).symm (tq_M_mono (am_X12_isIn h) ?_)
  refine tq_wi_e (fun r2 z1 h => ?_)
  refine tq_if_ne (off := 7) (tgt := 19) (by decide +kernel) (by decide +kernel) (fun hc => ?_) (fun hc => ?_)
  · replace h := h.1 hc
    refine tq_k_ic (n := 0) (v := (0 : Int32)) (by decide +kernel) kc_0 ?_
    exact ac_X12_signAt_20 h
  · replace h := h.2 hc
    refine tq_k_ic (n := 1) (v := (1 : Int32)) (by decide +kernel) kc_1 ?_
    refine tq_s_goto (off := 4) (tgt := 20) (by decide +kernel) (by decide +kernel) ?_
    exact ac_X12_signAt_20 h
def wc_X12_choice_85 (Q : tq_O → tq_S → Prop) (s0 : Int32) (z : tq_S) : Prop := ((s0 = (-1 : Int32) → Q (.inl (some (.int (-1 : Int32)))) z) ∧ (¬ s0 = (-1 : Int32) → vp_in s0 64 ∧ (((tq_ai z 53 (Int32.toNatClampNeg s0)) = 0 → Q (.inl (some (.int (-1 : Int32)))) z) ∧ (¬ (tq_ai z 53 (Int32.toNatClampNeg s0)) = 0 → Q (.inl (some (.int s0))) z))))
theorem ac_X12_choice_85 {K : Nat × (Nat → Int32)} {x : Nat} {Q : tq_O → tq_S → Prop} {s0 : Int32} {z : tq_S} (h : wc_X12_choice_85 Q s0 z) : tq_T K 0 x mm_X12_choice 85 [.ref 51, .null, .null, .null, .null, .null] [.int s0] z Q := by
  unfold wc_X12_choice_85 at h
  refine tq_s_istore (i := 5) (L9 := [.ref 51, .null, .null, .null, .null, .int s0]) (by decide +kernel) (by decide) rfl ?_
  refine tq_s_iload (i := 5) (by decide +kernel) rfl ?_
  refine tq_k_ic (n := -1) (v := (-1 : Int32)) (by decide +kernel) kc_m1 ?_
  refine tq_icmp_eq (off := 18) (tgt := 108) (by decide +kernel) (by decide +kernel) (fun hc => ?_) (fun hc => ?_)
  · replace h := h.1 hc
    refine tq_k_ic (n := -1) (v := (-1 : Int32)) (by decide +kernel) kc_m1 ?_
    exact tq_ret_i (st := []) (by decide +kernel) rfl h
  · replace h := h.2 hc
    refine tq_s_aload_n (kk := 0) (by decide +kernel) rfl ?_
    refine fg_12_20_51 rfl (by decide +kernel) ?_
    refine tq_s_iload (i := 5) (by decide +kernel) rfl ?_
    refine tq_s_zald (by decide +kernel) sh_53 h.1 ?_
    replace h := h.2
    refine tq_if_eq (off := 8) (tgt := 108) (by decide +kernel) (by decide +kernel) (fun hc => ?_) (fun hc => ?_)
    · replace h := h.1 hc
      refine tq_k_ic (n := -1) (v := (-1 : Int32)) (by decide +kernel) kc_m1 ?_
      exact tq_ret_i (st := []) (by decide +kernel) rfl h
    · replace h := h.2 hc
      refine tq_s_iload (i := 5) (by decide +kernel) rfl ?_
      refine tq_s_goto (off := 4) (tgt := 109) (by decide +kernel) (by decide +kernel) ?_
      exact tq_ret_i (st := []) (by decide +kernel) rfl h
def wc_X12_choice_84 (Q : tq_O → tq_S → Prop)  (z : tq_S) : Prop := wc_X12_choice_85 Q (-1 : Int32) z
theorem ac_X12_choice_84 {K : Nat × (Nat → Int32)} {x : Nat} {Q : tq_O → tq_S → Prop}  {z : tq_S} (h : wc_X12_choice_84 Q z) : tq_T K 0 x mm_X12_choice 84 [.ref 51, .null, .null, .null, .null, .null] [] z Q := by
  unfold wc_X12_choice_84 at h
  refine tq_k_ic (n := -1) (v := (-1 : Int32)) (by decide +kernel) kc_m1 ?_
  exact ac_X12_choice_85 h
def wm_X12_choice (a1 : Int32) (a2 : Int32) (z : tq_S) (Q : tq_O → tq_S → Prop) : Prop := ∀ v1 : Int32, v1 = (a1 - a1 / (8 : Int32) * (8 : Int32)) → ∀ v2 : Int32, v2 = (a1 / (8 : Int32)) → ((¬ a2 = 0 → ((¬ a2 = (1 : Int32) → (((tq_fi z 3267) = 0 → wc_X12_choice_84 Q z) ∧ (¬ (tq_fi z 3267) = 0 → ((¬ v1 = 0 → wc_X12_choice_84 Q z) ∧ (v1 = 0 → wc_X12_choice_85 Q ((a1 + (tq_fi z 3265)) - (1 : Int32)) z))))) ∧ (a2 = (1 : Int32) → (((tq_fi z 3266) ≤ (v2 + (1 : Int32)) → wc_X12_choice_85 Q (-1 : Int32) z) ∧ (¬ (tq_fi z 3266) ≤ (v2 + (1 : Int32)) → wc_X12_choice_85 Q (a1 + (8 : Int32)) z))))) ∧ (a2 = 0 → (((tq_fi z 3265) ≤ (v1 + (1 : Int32)) → wc_X12_choice_85 Q (-1 : Int32) z) ∧ (¬ (tq_fi z 3265) ≤ (v1 + (1 : Int32)) → wc_X12_choice_85 Q (a1 + (1 : Int32)) z))))
theorem am_X12_choice {K : Nat × (Nat → Int32)} {x : Nat} {z : tq_S} {Q : tq_O → tq_S → Prop} {a1 : Int32} {a2 : Int32} (h : wm_X12_choice a1 a2 z Q) : tq_M K 0 x mm_X12_choice [.ref 51, .int a1, .int a2] z Q := by
  unfold wm_X12_choice at h
  refine tq_enter (L := [.ref 51, .int a1, .int a2, .null, .null, .null]) mf_X12_choice.1 rfl rfl (Nat.le_of_ble_eq_true rfl) ?_
  refine tq_s_iload_n (kk := 1) (by decide +kernel) rfl ?_
  refine tq_k_bi (n := 8) (v := (8 : Int32)) (by decide +kernel) kb_8 ?_
  refine tq_s_irem (by decide +kernel) (by decide +kernel) ?_
  refine tq_g_istore_n (kk := 3) (fun v1 => [.ref 51, .int a1, .int a2, .int v1, .null, .null]) (by decide +kernel) (by decide) (fun _ => rfl) (fun v1 ev1 => ?_)
  replace h := h v1 ev1
  refine tq_s_iload_n (kk := 1) (by decide +kernel) rfl ?_
  refine tq_k_bi (n := 8) (v := (8 : Int32)) (by decide +kernel) kb_8 ?_
  refine tq_s_idiv (by decide +kernel) (by decide +kernel) ?_
  refine tq_g_istore (i := 4) (fun v2 => [.ref 51, .int a1, .int a2, .int v1, .int v2, .null]) (by decide +kernel) (by decide) (fun _ => rfl) (fun v2 ev2 => ?_)
  replace h := h v2 ev2
  refine tq_s_iload_n (kk := 2) (by decide +kernel) rfl ?_
  refine tq_if_ne (off := 23) (tgt := 35) (by decide +kernel) (by decide +kernel) (fun hc => ?_) (fun hc => ?_)
  · replace h := h.1 hc
    refine tq_s_iload_n (kk := 2) (by decide +kernel) rfl ?_
    refine tq_k_ic (n := 1) (v := (1 : Int32)) (by decide +kernel) kc_1 ?_
    refine tq_icmp_ne (off := 25) (tgt := 62) (by decide +kernel) (by decide +kernel) (fun hc => ?_) (fun hc => ?_)
    · replace h := h.1 hc
      refine tq_s_aload_n (kk := 0) (by decide +kernel) rfl ?_
      refine fg_12_142_51 rfl (by decide +kernel) ?_
      refine tq_if_eq (off := 18) (tgt := 84) (by decide +kernel) (by decide +kernel) (fun hc => ?_) (fun hc => ?_)
      · replace h := h.1 hc
        exact tq_to (tq_lk1 (tq_ld1 (tq_ld1 (tq_ld1 (tq_ld1 (tq_lk1 tq_l0)))))) (ac_X12_choice_84 h)
      · replace h := h.2 hc
        refine tq_s_iload_n (kk := 3) (by decide +kernel) rfl ?_
        refine tq_if_ne (off := 14) (tgt := 84) (by decide +kernel) (by decide +kernel) (fun hc => ?_) (fun hc => ?_)
        · replace h := h.1 hc
          exact tq_to (tq_lk1 (tq_ld1 (tq_ld1 (tq_ld1 (tq_ld1 (tq_lk1 tq_l0)))))) (ac_X12_choice_84 h)
        · replace h := h.2 hc
          refine tq_s_iload_n (kk := 1) (by decide +kernel) rfl ?_
          refine tq_s_aload_n (kk := 0) (by decide +kernel) rfl ?_
          refine fg_12_7_51 rfl (by decide +kernel) ?_
          refine tq_s_iadd (by decide +kernel) ?_
          refine tq_k_ic (n := 1) (v := (1 : Int32)) (by decide +kernel) kc_1 ?_
          refine tq_s_isub (by decide +kernel) ?_
          refine tq_s_goto (off := 4) (tgt := 85) (by decide +kernel) (by decide +kernel) ?_
          exact tq_to (tq_lk1 (tq_ld1 (tq_ld1 (tq_ld1 (tq_ld1 (tq_lk1 tq_l0)))))) (ac_X12_choice_85 h)
    · replace h := h.2 hc
      refine tq_s_iload (i := 4) (by decide +kernel) rfl ?_
      refine tq_k_ic (n := 1) (v := (1 : Int32)) (by decide +kernel) kc_1 ?_
      refine tq_s_iadd (by decide +kernel) ?_
      refine tq_s_aload_n (kk := 0) (by decide +kernel) rfl ?_
      refine fg_12_13_51 rfl (by decide +kernel) ?_
      refine tq_icmp_ge (off := 10) (tgt := 58) (by decide +kernel) (by decide +kernel) (fun hc => ?_) (fun hc => ?_)
      · replace h := h.1 hc
        refine tq_k_ic (n := -1) (v := (-1 : Int32)) (by decide +kernel) kc_m1 ?_
        refine tq_s_goto (off := 26) (tgt := 85) (by decide +kernel) (by decide +kernel) ?_
        exact tq_to (tq_lk1 (tq_ld1 (tq_ld1 (tq_ld1 (tq_ld1 (tq_lk1 tq_l0)))))) (ac_X12_choice_85 h)
      · replace h := h.2 hc
        refine tq_s_iload_n (kk := 1) (by decide +kernel) rfl ?_
        refine tq_k_bi (n := 8) (v := (8 : Int32)) (by decide +kernel) kb_8 ?_
        refine tq_s_iadd (by decide +kernel) ?_
        refine tq_s_goto (off := 30) (tgt := 85) (by decide +kernel) (by decide +kernel) ?_
        exact tq_to (tq_lk1 (tq_ld1 (tq_ld1 (tq_ld1 (tq_ld1 (tq_lk1 tq_l0)))))) (ac_X12_choice_85 h)
  · replace h := h.2 hc
    refine tq_s_iload_n (kk := 3) (by decide +kernel) rfl ?_
    refine tq_k_ic (n := 1) (v := (1 : Int32)) (by decide +kernel) kc_1 ?_
    refine tq_s_iadd (by decide +kernel) ?_
    refine tq_s_aload_n (kk := 0) (by decide +kernel) rfl ?_
    refine fg_12_7_51 rfl (by decide +kernel) ?_
    refine tq_icmp_ge (off := 9) (tgt := 31) (by decide +kernel) (by decide +kernel) (fun hc => ?_) (fun hc => ?_)
    · replace h := h.1 hc
      refine tq_k_ic (n := -1) (v := (-1 : Int32)) (by decide +kernel) kc_m1 ?_
      refine tq_s_goto (off := 53) (tgt := 85) (by decide +kernel) (by decide +kernel) ?_
      exact tq_to (tq_lk1 (tq_ld1 (tq_ld1 (tq_ld1 (tq_ld1 (tq_lk1 tq_l0)))))) (ac_X12_choice_85 h)
    · replace h := h.2 hc
      refine tq_s_iload_n (kk := 1) (by decide +kernel) rfl ?_
      refine tq_k_ic (n := 1) (v := (1 : Int32)) (by decide +kernel) kc_1 ?_
      refine tq_s_iadd (by decide +kernel) ?_
      refine tq_s_goto (off := 57) (tgt := 85) (by decide +kernel) (by decide +kernel) ?_
      exact tq_to (tq_lk1 (tq_ld1 (tq_ld1 (tq_ld1 (tq_ld1 (tq_lk1 tq_l0)))))) (ac_X12_choice_85 h)
def wc_X12_lay_26 (Q : tq_O → tq_S → Prop) (a2 : Int32) (a3 : Int32) (s0 : Int32) (s1 : Int32) (z : tq_S) : Prop := vp_in s1 64 ∧ ∀ z101 : tq_S, z101 = tq_sai z 56 (upd (tq_ai z 56) (Int32.toNatClampNeg s1) (vp_nar .char s0)) → ((¬ a3 = 0 → ((¬ a3 = (1 : Int32) → vp_in a2 64 ∧ ∀ z102 : tq_S, z102 = tq_sai z101 56 (upd (tq_ai z101 56) (Int32.toNatClampNeg a2) (vp_nar .char (101 : Int32))) → Q (.inl none) z102) ∧ (a3 = (1 : Int32) → vp_in a2 64 ∧ ∀ z103 : tq_S, z103 = tq_sai z101 56 (upd (tq_ai z101 56) (Int32.toNatClampNeg a2) (vp_nar .char (110 : Int32))) → Q (.inl none) z103))) ∧ (a3 = 0 → vp_in a2 64 ∧ ∀ z104 : tq_S, z104 = tq_sai z101 56 (upd (tq_ai z101 56) (Int32.toNatClampNeg a2) (vp_nar .char (119 : Int32))) → Q (.inl none) z104))
theorem ac_X12_lay_26 {K : Nat × (Nat → Int32)} {x : Nat} {Q : tq_O → tq_S → Prop} {a2 : Int32} {a3 : Int32} {s0 : Int32} {s1 : Int32} {z : tq_S} (h : wc_X12_lay_26 Q a2 a3 s0 s1 z) : tq_T K 0 x mm_X12_lay 26 [.ref 51, .null, .int a2, .int a3] [.int s0, .int s1, .ref 56] z Q := by
  unfold wc_X12_lay_26 at h
  refine tq_g_cast (by decide +kernel) sh_56 h.1 (fun z101 ez101 => ?_)
  replace h := h.2 z101 ez101
  refine tq_s_aload_n (kk := 0) (by decide +kernel) rfl ?_
  refine fg_12_30_51 rfl (by decide +kernel) ?_
  refine tq_s_iload_n (kk := 2) (by decide +kernel) rfl ?_
  refine tq_s_iload_n (kk := 3) (by decide +kernel) rfl ?_
  refine tq_if_ne (off := 8) (tgt := 41) (by decide +kernel) (by decide +kernel) (fun hc => ?_) (fun hc => ?_)
  · replace h := h.1 hc
    refine tq_s_iload_n (kk := 3) (by decide +kernel) rfl ?_
    refine tq_k_ic (n := 1) (v := (1 : Int32)) (by decide +kernel) kc_1 ?_
    refine tq_icmp_ne (off := 8) (tgt := 51) (by decide +kernel) (by decide +kernel) (fun hc => ?_) (fun hc => ?_)
    · replace h := h.1 hc
      refine tq_k_bi (n := 101) (v := (101 : Int32)) (by decide +kernel) kb_101 ?_
      refine tq_g_cast (by decide +kernel) sh_56 h.1 (fun z102 ez102 => ?_)
      replace h := h.2 z102 ez102
      exact tq_ret_v (st := []) (by decide +kernel) rfl h
    · replace h := h.2 hc
      refine tq_k_bi (n := 110) (v := (110 : Int32)) (by decide +kernel) kb_110 ?_
      refine tq_s_goto (off := 5) (tgt := 53) (by decide +kernel) (by decide +kernel) ?_
      refine tq_g_cast (by decide +kernel) sh_56 h.1 (fun z103 ez103 => ?_)
      replace h := h.2 z103 ez103
      exact tq_ret_v (st := []) (by decide +kernel) rfl h
  · replace h := h.2 hc
    refine tq_k_bi (n := 119) (v := (119 : Int32)) (by decide +kernel) kb_119 ?_
    refine tq_s_goto (off := 15) (tgt := 53) (by decide +kernel) (by decide +kernel) ?_
    refine tq_g_cast (by decide +kernel) sh_56 h.1 (fun z104 ez104 => ?_)
    replace h := h.2 z104 ez104
    exact tq_ret_v (st := []) (by decide +kernel) rfl h
def wm_X12_lay (a1 : Int32) (a2 : Int32) (a3 : Int32) (z : tq_S) (Q : tq_O → tq_S → Prop) : Prop := ((¬ a3 = 0 → ((¬ a3 = (1 : Int32) → wc_X12_lay_26 Q a2 a3 (119 : Int32) a1 z) ∧ (a3 = (1 : Int32) → wc_X12_lay_26 Q a2 a3 (115 : Int32) a1 z))) ∧ (a3 = 0 → wc_X12_lay_26 Q a2 a3 (101 : Int32) a1 z))
theorem am_X12_lay {K : Nat × (Nat → Int32)} {x : Nat} {z : tq_S} {Q : tq_O → tq_S → Prop} {a1 : Int32} {a2 : Int32} {a3 : Int32} (h : wm_X12_lay a1 a2 a3 z Q) : tq_M K 0 x mm_X12_lay [.ref 51, .int a1, .int a2, .int a3] z Q := by
  unfold wm_X12_lay at h
  refine tq_enter (L := [.ref 51, .int a1, .int a2, .int a3]) mf_X12_lay.1 rfl rfl (Nat.le_of_ble_eq_true rfl) ?_
  refine tq_s_aload_n (kk := 0) (by decide +kernel) rfl ?_
  refine fg_12_30_51 rfl (by decide +kernel) ?_
  refine tq_s_iload_n (kk := 1) (by decide +kernel) rfl ?_
  refine tq_s_iload_n (kk := 3) (by decide +kernel) rfl ?_
  refine tq_if_ne (off := 8) (tgt := 14) (by decide +kernel) (by decide +kernel) (fun hc => ?_) (fun hc => ?_)
  · replace h := h.1 hc
    refine tq_s_iload_n (kk := 3) (by decide +kernel) rfl ?_
    refine tq_k_ic (n := 1) (v := (1 : Int32)) (by decide +kernel) kc_1 ?_
    refine tq_icmp_ne (off := 8) (tgt := 24) (by decide +kernel) (by decide +kernel) (fun hc => ?_) (fun hc => ?_)
    · replace h := h.1 hc
      refine tq_k_bi (n := 119) (v := (119 : Int32)) (by decide +kernel) kb_119 ?_
      exact tq_to (tq_lk1 (tq_ld1 (tq_lk1 (tq_lk1 tq_l0)))) (ac_X12_lay_26 h)
    · replace h := h.2 hc
      refine tq_k_bi (n := 115) (v := (115 : Int32)) (by decide +kernel) kb_115 ?_
      refine tq_s_goto (off := 5) (tgt := 26) (by decide +kernel) (by decide +kernel) ?_
      exact tq_to (tq_lk1 (tq_ld1 (tq_lk1 (tq_lk1 tq_l0)))) (ac_X12_lay_26 h)
  · replace h := h.2 hc
    refine tq_k_bi (n := 101) (v := (101 : Int32)) (by decide +kernel) kb_101 ?_
    refine tq_s_goto (off := 15) (tgt := 26) (by decide +kernel) (by decide +kernel) ?_
    exact tq_to (tq_lk1 (tq_ld1 (tq_lk1 (tq_lk1 tq_l0)))) (ac_X12_lay_26 h)
def wm_X12_take (a1 : Int32) (a2 : Int32) (a3 : Int32) (z : tq_S) (Q : tq_O → tq_S → Prop) : Prop := vp_in a1 64 ∧ ∀ z1 : tq_S, z1 = tq_sai z 53 (upd (tq_ai z 53) (Int32.toNatClampNeg a1) (vp_nar .boolean a3)) → vp_in a2 64 ∧ ∀ z2 : tq_S, z2 = tq_sai z1 53 (upd (tq_ai z1 53) (Int32.toNatClampNeg a2) (vp_nar .boolean a3)) → Q (.inl none) z2
theorem am_X12_take {K : Nat × (Nat → Int32)} {x : Nat} {z : tq_S} {Q : tq_O → tq_S → Prop} {a1 : Int32} {a2 : Int32} {a3 : Int32} (h : wm_X12_take a1 a2 a3 z Q) : tq_M K 0 x mm_X12_take [.ref 51, .int a1, .int a2, .int a3] z Q := by
  unfold wm_X12_take at h
  refine tq_enter (L := [.ref 51, .int a1, .int a2, .int a3]) mf_X12_take.1 rfl rfl (Nat.le_of_ble_eq_true rfl) ?_
  refine tq_s_aload_n (kk := 0) (by decide +kernel) rfl ?_
  refine fg_12_20_51 rfl (by decide +kernel) ?_
  refine tq_s_iload_n (kk := 1) (by decide +kernel) rfl ?_
  refine tq_s_iload_n (kk := 3) (by decide +kernel) rfl ?_
  refine tq_g_zast (by decide +kernel) sh_53 h.1 (fun z1 ez1 => ?_)
  replace h := h.2 z1 ez1
  refine tq_s_aload_n (kk := 0) (by decide +kernel) rfl ?_
  refine fg_12_20_51 rfl (by decide +kernel) ?_
  refine tq_s_iload_n (kk := 2) (by decide +kernel) rfl ?_
  refine tq_s_iload_n (kk := 3) (by decide +kernel) rfl ?_
  refine tq_g_zast (by decide +kernel) sh_53 h.1 (fun z2 ez2 => ?_)
  replace h := h.2 z2 ez2
  exact tq_ret_v (st := []) (by decide +kernel) rfl h
def wc_X12_make_139 (B9 : Int64 → Int32 → tq_S → Prop) (B21 : Int64 → Int32 → tq_S → Prop) (B60 : Int64 → Int32 → Int32 → tq_S → Prop) (Q : tq_O → tq_S → Prop) (a3 : Int64) (a5 : Int32) (a6 : Int32) (a7 : Int32) (a8 : Int32) (a9 : Int32) (z : tq_S) : Prop := ∀ v101 : Int32, v101 = a9 + (1 : Int32) → B60 a3 a8 v101 z
theorem ac_X12_make_139 {K : Nat × (Nat → Int32)} {x : Nat} {Q : tq_O → tq_S → Prop} {B9 : Int64 → Int32 → tq_S → Prop} {B21 : Int64 → Int32 → tq_S → Prop} {B60 : Int64 → Int32 → Int32 → tq_S → Prop} {a3 : Int64} {a5 : Int32} {a6 : Int32} {a7 : Int32} {a8 : Int32} {a9 : Int32} {z : tq_S} (hB9 : ∀ (b3 : Int64) (b5 : Int32) (z : tq_S), B9 b3 b5 z → tq_T K 42 x mm_X12_make 9 [.ref 51, .null, .null, .long b3, .null, .int b5, .null, .null, .null, .null, .null, .null, .null] [] z Q) (hB21 : ∀ (b3 : Int64) (b6 : Int32) (z : tq_S), B21 b3 b6 z → tq_T K 42 x mm_X12_make 21 [.ref 51, .null, .null, .long b3, .null, .int a5, .int b6, .null, .null, .null, .null, .null, .null] [] z Q) (hB60 : ∀ (b3 : Int64) (b8 : Int32) (b9 : Int32) (z : tq_S), B60 b3 b8 b9 z → tq_T K 42 x mm_X12_make 60 [.ref 51, .null, .null, .long b3, .null, .int a5, .int a6, .int a7, .int b8, .int b9, .null, .null, .null] [] z Q) (h : wc_X12_make_139 B9 B21 B60 Q a3 a5 a6 a7 a8 a9 z) : tq_T K 42 x mm_X12_make 139 [.ref 51, .null, .null, .long a3, .null, .int a5, .int a6, .int a7, .int a8, .int a9, .null, .null, .null] [] z Q := by
  unfold wc_X12_make_139 at h
  refine tq_g_iinc (i := 9) (fun v101 => [.ref 51, .null, .null, .long a3, .null, .int a5, .int a6, .int a7, .int a8, .int v101, .null, .null, .null]) (by decide +kernel) rfl (1 : Int32) kc_1 (fun _ => rfl) (fun v101 ev101 => ?_)
  replace h := h v101 ev101
  refine tq_s_goto (off := -82) (tgt := 60) (by decide +kernel) (by decide +kernel) ?_
  exact hB60 _ _ _ _ h
def wc_X12_make_145 (B9 : Int64 → Int32 → tq_S → Prop) (B21 : Int64 → Int32 → tq_S → Prop) (Q : tq_O → tq_S → Prop) (a3 : Int64) (a5 : Int32) (a6 : Int32) (z : tq_S) : Prop := ∀ v101 : Int32, v101 = a6 + (1 : Int32) → B21 a3 v101 z
theorem ac_X12_make_145 {K : Nat × (Nat → Int32)} {x : Nat} {Q : tq_O → tq_S → Prop} {B9 : Int64 → Int32 → tq_S → Prop} {B21 : Int64 → Int32 → tq_S → Prop} {a3 : Int64} {a5 : Int32} {a6 : Int32} {z : tq_S} (hB9 : ∀ (b3 : Int64) (b5 : Int32) (z : tq_S), B9 b3 b5 z → tq_T K 42 x mm_X12_make 9 [.ref 51, .null, .null, .long b3, .null, .int b5, .null, .null, .null, .null, .null, .null, .null] [] z Q) (hB21 : ∀ (b3 : Int64) (b6 : Int32) (z : tq_S), B21 b3 b6 z → tq_T K 42 x mm_X12_make 21 [.ref 51, .null, .null, .long b3, .null, .int a5, .int b6, .null, .null, .null, .null, .null, .null] [] z Q) (h : wc_X12_make_145 B9 B21 Q a3 a5 a6 z) : tq_T K 42 x mm_X12_make 145 [.ref 51, .null, .null, .long a3, .null, .int a5, .int a6, .null, .null, .null, .null, .null, .null] [] z Q := by
  unfold wc_X12_make_145 at h
  refine tq_g_iinc (i := 6) (fun v101 => [.ref 51, .null, .null, .long a3, .null, .int a5, .int v101, .null, .null, .null, .null, .null, .null]) (by decide +kernel) rfl (1 : Int32) kc_1 (fun _ => rfl) (fun v101 ev101 => ?_)
  replace h := h v101 ev101
  refine tq_s_goto (off := -127) (tgt := 21) (by decide +kernel) (by decide +kernel) ?_
  exact hB21 _ _ _ h
def wb_X12_make_60 (B9 : Int64 → Int32 → tq_S → Prop) (B21 : Int64 → Int32 → tq_S → Prop) (B60 : Int64 → Int32 → Int32 → tq_S → Prop) (Q : tq_O → tq_S → Prop) (a3 : Int64) (a5 : Int32) (a6 : Int32) (a7 : Int32) (a8 : Int32) (a9 : Int32) (z : tq_S) : Prop := (((3 : Int32) ≤ a9 → wc_X12_make_145 B9 B21 Q a3 a5 a6 z) ∧ (¬ (3 : Int32) ≤ a9 → ((¬ a8 = 0 → wc_X12_make_145 B9 B21 Q a3 a5 a6 z) ∧ (a8 = 0 → wm_X12_choice a7 a9 z (tq_wi fun r102 z101 => ((r102 = (-1 : Int32) → wc_X12_make_139 B9 B21 B60 Q a3 a5 a6 a7 a8 a9 z101) ∧ (¬ r102 = (-1 : Int32) → wm_X12_take a7 r102 (0 : Int32) z101 (tq_wv fun z103 => wm_X12_count z103 (tq_wl fun r105 z104 => ((r105 ≤ a3 → ∀ v106 : Int64, v106 = (a3 - r105) → wm_X12_take a7 r102 (1 : Int32) z104 (tq_wv fun z107 => wc_X12_make_139 B9 B21 B60 Q v106 a5 a6 a7 a8 a9 z107)) ∧ (¬ r105 ≤ a3 → wm_X12_lay a7 r102 a9 z104 (tq_wv fun z108 => wc_X12_make_139 B9 B21 B60 Q a3 a5 a6 a7 (1 : Int32) a9 z108))))))))))))
def wc_X12_make_60 (B9 : Int64 → Int32 → tq_S → Prop) (B21 : Int64 → Int32 → tq_S → Prop) (Q : tq_O → tq_S → Prop) (a3 : Int64) (a5 : Int32) (a6 : Int32) (a7 : Int32) (a8 : Int32) (a9 : Int32) (z : tq_S) : Prop := tq_lp (σ := Int64 × Int32 × Int32 × tq_S) (fun B s => wb_X12_make_60 B9 B21 (fun b3 b8 b9 z => B (b3, b8, b9, z)) Q s.1 a5 a6 a7 s.2.1 s.2.2.1 s.2.2.2) (a3, a8, a9, z)
theorem ab_X12_make_60 {K : Nat × (Nat → Int32)} {x : Nat} {Q : tq_O → tq_S → Prop} {B9 : Int64 → Int32 → tq_S → Prop} {B21 : Int64 → Int32 → tq_S → Prop} {B60 : Int64 → Int32 → Int32 → tq_S → Prop} {a3 : Int64} {a5 : Int32} {a6 : Int32} {a7 : Int32} {a8 : Int32} {a9 : Int32} {z : tq_S} (hB9 : ∀ (b3 : Int64) (b5 : Int32) (z : tq_S), B9 b3 b5 z → tq_T K 42 x mm_X12_make 9 [.ref 51, .null, .null, .long b3, .null, .int b5, .null, .null, .null, .null, .null, .null, .null] [] z Q) (hB21 : ∀ (b3 : Int64) (b6 : Int32) (z : tq_S), B21 b3 b6 z → tq_T K 42 x mm_X12_make 21 [.ref 51, .null, .null, .long b3, .null, .int a5, .int b6, .null, .null, .null, .null, .null, .null] [] z Q) (hB60 : ∀ (b3 : Int64) (b8 : Int32) (b9 : Int32) (z : tq_S), B60 b3 b8 b9 z → tq_T K 42 x mm_X12_make 60 [.ref 51, .null, .null, .long b3, .null, .int a5, .int a6, .int a7, .int b8, .int b9, .null, .null, .null] [] z Q) (h : wb_X12_make_60 B9 B21 B60 Q a3 a5 a6 a7 a8 a9 z) : tq_T K 42 x mm_X12_make 60 [.ref 51, .null, .null, .long a3, .null, .int a5, .int a6, .int a7, .int a8, .int a9, .null, .null, .null] [] z Q := by
  unfold wb_X12_make_60 at h
  refine tq_s_iload (i := 9) (by decide +kernel) rfl ?_
  refine tq_k_ic (n := 3) (v := (3 : Int32)) (by decide +kernel) kc_3 ?_
  refine tq_icmp_ge (off := 82) (tgt := 145) (by decide +kernel) (by decide +kernel) (fun hc => ?_) (fun hc => ?_)
  · replace h := h.1 hc
    exact tq_to (tq_lk1 (tq_lk1 (tq_lk1 (tq_lk1 (tq_lk1 (tq_lk1 (tq_lk1 (tq_ld1 (tq_ld1 (tq_ld1 (tq_lk1 (tq_lk1 (tq_lk1 tq_l0))))))))))))) (ac_X12_make_145 hB9 hB21 h)
  · replace h := h.2 hc
    refine tq_s_iload (i := 8) (by decide +kernel) rfl ?_
    refine tq_if_ne (off := 77) (tgt := 145) (by decide +kernel) (by decide +kernel) (fun hc => ?_) (fun hc => ?_)
    · replace h := h.1 hc
      exact tq_to (tq_lk1 (tq_lk1 (tq_lk1 (tq_lk1 (tq_lk1 (tq_lk1 (tq_lk1 (tq_ld1 (tq_ld1 (tq_ld1 (tq_lk1 (tq_lk1 (tq_lk1 tq_l0))))))))))))) (ac_X12_make_145 hB9 hB21 h)
    · replace h := h.2 hc
      refine tq_s_aload_n (kk := 0) (by decide +kernel) rfl ?_
      refine tq_s_iload (i := 7) (by decide +kernel) rfl ?_
      refine tq_s_iload (i := 9) (by decide +kernel) rfl ?_
      refine tq_callV (as := [.int a7, .int a9]) (st := []) (d1 := 0) (x1 := 0) (x2 := x) (by decide +kernel) ln_12_241 mf_X12_choice rfl sh_51 rfl (by decide) np_X12_choice rfl (Nat.le_of_ble_eq_true rfl) (by decide) (Nat.zero_add _).symm (tq_M_mono (am_X12_choice h) ?_)
      refine tq_wi_e (fun r102 z101 h => ?_)
      refine tq_s_istore (i := 10) (L9 := [.ref 51, .null, .null, .long a3, .null, .int a5, .int a6, .int a7, .int a8, .int a9, .int r102, .null, .null]) (by decide +kernel) (by decide) rfl ?_
      refine tq_s_iload (i := 10) (by decide +kernel) rfl ?_
      refine tq_k_ic (n := -1) (v := (-1 : Int32)) (by decide +kernel) kc_m1 ?_
      refine tq_icmp_eq (off := 55) (tgt := 139) (by decide +kernel) (by decide +kernel) (fun hc => ?_) (fun hc => ?_)
      · replace h := h.1 hc
        exact tq_to (tq_lk1 (tq_lk1 (tq_lk1 (tq_lk1 (tq_lk1 (tq_lk1 (tq_lk1 (tq_lk1 (tq_lk1 (tq_lk1 (tq_ld1 (tq_lk1 (tq_lk1 tq_l0))))))))))))) (ac_X12_make_139 hB9 hB21 hB60 h)
      · replace h := h.2 hc
        refine tq_s_aload_n (kk := 0) (by decide +kernel) rfl ?_
        refine tq_s_iload (i := 7) (by decide +kernel) rfl ?_
        refine tq_s_iload (i := 10) (by decide +kernel) rfl ?_
        refine tq_k_ic (n := 0) (v := (0 : Int32)) (by decide +kernel) kc_0 ?_
        refine tq_callV (as := [.int a7, .int r102, .int (0 : Int32)]) (st := []) (d1 := 0) (x1 := 0) (x2 := x) (by decide +kernel) ln_12_244 mf_X12_take rfl sh_51 rfl (by decide) np_X12_take rfl (Nat.le_of_ble_eq_true rfl) (by decide) (Nat.zero_add _).symm (tq_M_mono (am_X12_take h) ?_)
        refine tq_wv_e (fun z103 h => ?_)
        refine tq_s_aload_n (kk := 0) (by decide +kernel) rfl ?_
        refine tq_callV (as := []) (st := []) (d1 := 41) (x1 := 0) (x2 := x) (by decide +kernel) ln_12_205 mf_X12_count rfl sh_51 rfl (by decide) np_X12_count rfl (Nat.le_of_ble_eq_true rfl) (by decide) (Nat.zero_add _).symm (tq_M_mono (am_X12_count h) ?_)
        refine tq_wl_e (fun r105 z104 h => ?_)
        refine tq_s_lstore (i := 11) (L9 := [.ref 51, .null, .null, .long a3, .null, .int a5, .int a6, .int a7, .int a8, .int a9, .int r102, .long r105, .null]) (by decide +kernel) (by decide) rfl ?_
        refine tq_s_lload_n (kk := 3) (by decide +kernel) rfl ?_
        refine tq_s_lload (i := 11) (by decide +kernel) rfl ?_
        refine tq_lcmp_ge (off := 19) (tgt := 125) (by decide +kernel) (by decide +kernel) (by decide +kernel) (fun hc => ?_) (fun hc => ?_)
        · replace h := h.1 hc
          refine tq_s_lload_n (kk := 3) (by decide +kernel) rfl ?_
          refine tq_s_lload (i := 11) (by decide +kernel) rfl ?_
          refine tq_s_lsub (by decide +kernel) ?_
          refine tq_g_lstore_n (kk := 3) (fun v106 => [.ref 51, .null, .null, .long v106, .null, .int a5, .int a6, .int a7, .int a8, .int a9, .int r102, .long r105, .null]) (by decide +kernel) (by decide) (fun _ => rfl) (fun v106 ev106 => ?_)
          replace h := h v106 ev106
          refine tq_s_aload_n (kk := 0) (by decide +kernel) rfl ?_
          refine tq_s_iload (i := 7) (by decide +kernel) rfl ?_
          refine tq_s_iload (i := 10) (by decide +kernel) rfl ?_
          refine tq_k_ic (n := 1) (v := (1 : Int32)) (by decide +kernel) kc_1 ?_
          refine tq_callV (as := [.int a7, .int r102, .int (1 : Int32)]) (st := []) (d1 := 0) (x1 := 0) (x2 := x) (by decide +kernel) ln_12_244 mf_X12_take rfl sh_51 rfl (by decide) np_X12_take rfl (Nat.le_of_ble_eq_true rfl) (by decide) (Nat.zero_add _).symm (tq_M_mono (am_X12_take h) ?_)
          refine tq_wv_e (fun z107 h => ?_)
          exact tq_to (tq_lk1 (tq_lk1 (tq_lk1 (tq_lk1 (tq_lk1 (tq_lk1 (tq_lk1 (tq_lk1 (tq_lk1 (tq_lk1 (tq_ld1 (tq_ld1 (tq_lk1 tq_l0))))))))))))) (ac_X12_make_139 hB9 hB21 hB60 h)
        · replace h := h.2 hc
          refine tq_s_aload_n (kk := 0) (by decide +kernel) rfl ?_
          refine tq_s_iload (i := 7) (by decide +kernel) rfl ?_
          refine tq_s_iload (i := 10) (by decide +kernel) rfl ?_
          refine tq_s_iload (i := 9) (by decide +kernel) rfl ?_
          refine tq_callV (as := [.int a7, .int r102, .int a9]) (st := []) (d1 := 0) (x1 := 0) (x2 := x) (by decide +kernel) ln_12_247 mf_X12_lay rfl sh_51 rfl (by decide) np_X12_lay rfl (Nat.le_of_ble_eq_true rfl) (by decide) (Nat.zero_add _).symm (tq_M_mono (am_X12_lay h) ?_)
          refine tq_wv_e (fun z108 h => ?_)
          refine tq_k_ic (n := 1) (v := (1 : Int32)) (by decide +kernel) kc_1 ?_
          refine tq_s_istore (i := 8) (L9 := [.ref 51, .null, .null, .long a3, .null, .int a5, .int a6, .int a7, .int (1 : Int32), .int a9, .int r102, .long r105, .null]) (by decide +kernel) (by decide) rfl ?_
          refine tq_s_goto (off := 17) (tgt := 139) (by decide +kernel) (by decide +kernel) ?_
          exact tq_to (tq_lk1 (tq_lk1 (tq_lk1 (tq_lk1 (tq_lk1 (tq_lk1 (tq_lk1 (tq_lk1 (tq_lk1 (tq_lk1 (tq_ld1 (tq_ld1 (tq_lk1 tq_l0))))))))))))) (ac_X12_make_139 hB9 hB21 hB60 h)
theorem ac_X12_make_60 {K : Nat × (Nat → Int32)} {x : Nat} {Q : tq_O → tq_S → Prop} {B9 : Int64 → Int32 → tq_S → Prop} {B21 : Int64 → Int32 → tq_S → Prop} {a3 : Int64} {a5 : Int32} {a6 : Int32} {a7 : Int32} {a8 : Int32} {a9 : Int32} {z : tq_S} (hB9 : ∀ (b3 : Int64) (b5 : Int32) (z : tq_S), B9 b3 b5 z → tq_T K 42 x mm_X12_make 9 [.ref 51, .null, .null, .long b3, .null, .int b5, .null, .null, .null, .null, .null, .null, .null] [] z Q) (hB21 : ∀ (b3 : Int64) (b6 : Int32) (z : tq_S), B21 b3 b6 z → tq_T K 42 x mm_X12_make 21 [.ref 51, .null, .null, .long b3, .null, .int a5, .int b6, .null, .null, .null, .null, .null, .null] [] z Q) (h : wc_X12_make_60 B9 B21 Q a3 a5 a6 a7 a8 a9 z) : tq_T K 42 x mm_X12_make 60 [.ref 51, .null, .null, .long a3, .null, .int a5, .int a6, .int a7, .int a8, .int a9, .null, .null, .null] [] z Q :=
  tq_lp_T (σ := Int64 × Int32 × Int32 × tq_S) (s := (a3, a8, a9, z)) (G := fun s => tq_T K 42 x mm_X12_make 60 [.ref 51, .null, .null, .long s.1, .null, .int a5, .int a6, .int a7, .int s.2.1, .int s.2.2.1, .null, .null, .null] [] s.2.2.2 Q) (fun B hB s h => ab_X12_make_60 hB9 hB21 (fun b3 b8 b9 z h => hB (b3, b8, b9, z) h) h) h
def wc_X12_make_55 (B9 : Int64 → Int32 → tq_S → Prop) (B21 : Int64 → Int32 → tq_S → Prop) (Q : tq_O → tq_S → Prop) (a3 : Int64) (a5 : Int32) (a6 : Int32) (a7 : Int32) (s0 : Int32) (z : tq_S) : Prop := wc_X12_make_60 B9 B21 Q a3 a5 a6 a7 s0 (0 : Int32) z
theorem ac_X12_make_55 {K : Nat × (Nat → Int32)} {x : Nat} {Q : tq_O → tq_S → Prop} {B9 : Int64 → Int32 → tq_S → Prop} {B21 : Int64 → Int32 → tq_S → Prop} {a3 : Int64} {a5 : Int32} {a6 : Int32} {a7 : Int32} {s0 : Int32} {z : tq_S} (hB9 : ∀ (b3 : Int64) (b5 : Int32) (z : tq_S), B9 b3 b5 z → tq_T K 42 x mm_X12_make 9 [.ref 51, .null, .null, .long b3, .null, .int b5, .null, .null, .null, .null, .null, .null, .null] [] z Q) (hB21 : ∀ (b3 : Int64) (b6 : Int32) (z : tq_S), B21 b3 b6 z → tq_T K 42 x mm_X12_make 21 [.ref 51, .null, .null, .long b3, .null, .int a5, .int b6, .null, .null, .null, .null, .null, .null] [] z Q) (h : wc_X12_make_55 B9 B21 Q a3 a5 a6 a7 s0 z) : tq_T K 42 x mm_X12_make 55 [.ref 51, .null, .null, .long a3, .null, .int a5, .int a6, .int a7, .null, .null, .null, .null, .null] [.int s0] z Q := by
  unfold wc_X12_make_55 at h
  refine tq_s_istore (i := 8) (L9 := [.ref 51, .null, .null, .long a3, .null, .int a5, .int a6, .int a7, .int s0, .null, .null, .null, .null]) (by decide +kernel) (by decide) rfl ?_
  refine tq_k_ic (n := 0) (v := (0 : Int32)) (by decide +kernel) kc_0 ?_
  refine tq_s_istore (i := 9) (L9 := [.ref 51, .null, .null, .long a3, .null, .int a5, .int a6, .int a7, .int s0, .int (0 : Int32), .null, .null, .null]) (by decide +kernel) (by decide) rfl ?_
  exact ac_X12_make_60 hB9 hB21 h
def wc_X12_make_151 (B9 : Int64 → Int32 → tq_S → Prop) (Q : tq_O → tq_S → Prop) (a3 : Int64) (a5 : Int32) (z : tq_S) : Prop := ∀ v101 : Int32, v101 = a5 + (1 : Int32) → B9 a3 v101 z
theorem ac_X12_make_151 {K : Nat × (Nat → Int32)} {x : Nat} {Q : tq_O → tq_S → Prop} {B9 : Int64 → Int32 → tq_S → Prop} {a3 : Int64} {a5 : Int32} {z : tq_S} (hB9 : ∀ (b3 : Int64) (b5 : Int32) (z : tq_S), B9 b3 b5 z → tq_T K 42 x mm_X12_make 9 [.ref 51, .null, .null, .long b3, .null, .int b5, .null, .null, .null, .null, .null, .null, .null] [] z Q) (h : wc_X12_make_151 B9 Q a3 a5 z) : tq_T K 42 x mm_X12_make 151 [.ref 51, .null, .null, .long a3, .null, .int a5, .null, .null, .null, .null, .null, .null, .null] [] z Q := by
  unfold wc_X12_make_151 at h
  refine tq_g_iinc (i := 5) (fun v101 => [.ref 51, .null, .null, .long a3, .null, .int v101, .null, .null, .null, .null, .null, .null, .null]) (by decide +kernel) rfl (1 : Int32) kc_1 (fun _ => rfl) (fun v101 ev101 => ?_)
  replace h := h v101 ev101
  refine tq_s_goto (off := -145) (tgt := 9) (by decide +kernel) (by decide +kernel) ?_
  exact hB9 _ _ _ h
def wb_X12_make_21 (B9 : Int64 → Int32 → tq_S → Prop) (B21 : Int64 → Int32 → tq_S → Prop) (Q : tq_O → tq_S → Prop) (a3 : Int64) (a5 : Int32) (a6 : Int32) (z : tq_S) : Prop := (((tq_fi z 3265) ≤ a6 → wc_X12_make_151 B9 Q a3 a5 z) ∧ (¬ (tq_fi z 3265) ≤ a6 → ∀ v101 : Int32, v101 = (((8 : Int32) * a5) + a6) → vp_in v101 64 ∧ ((¬ (tq_ai z 53 (Int32.toNatClampNeg v101)) = 0 → wc_X12_make_55 B9 B21 Q a3 a5 a6 v101 (0 : Int32) z) ∧ ((tq_ai z 53 (Int32.toNatClampNeg v101)) = 0 → wc_X12_make_55 B9 B21 Q a3 a5 a6 v101 (1 : Int32) z))))
def wc_X12_make_21 (B9 : Int64 → Int32 → tq_S → Prop) (Q : tq_O → tq_S → Prop) (a3 : Int64) (a5 : Int32) (a6 : Int32) (z : tq_S) : Prop := tq_lp (σ := Int64 × Int32 × tq_S) (fun B s => wb_X12_make_21 B9 (fun b3 b6 z => B (b3, b6, z)) Q s.1 a5 s.2.1 s.2.2) (a3, a6, z)
theorem ab_X12_make_21 {K : Nat × (Nat → Int32)} {x : Nat} {Q : tq_O → tq_S → Prop} {B9 : Int64 → Int32 → tq_S → Prop} {B21 : Int64 → Int32 → tq_S → Prop} {a3 : Int64} {a5 : Int32} {a6 : Int32} {z : tq_S} (hB9 : ∀ (b3 : Int64) (b5 : Int32) (z : tq_S), B9 b3 b5 z → tq_T K 42 x mm_X12_make 9 [.ref 51, .null, .null, .long b3, .null, .int b5, .null, .null, .null, .null, .null, .null, .null] [] z Q) (hB21 : ∀ (b3 : Int64) (b6 : Int32) (z : tq_S), B21 b3 b6 z → tq_T K 42 x mm_X12_make 21 [.ref 51, .null, .null, .long b3, .null, .int a5, .int b6, .null, .null, .null, .null, .null, .null] [] z Q) (h : wb_X12_make_21 B9 B21 Q a3 a5 a6 z) : tq_T K 42 x mm_X12_make 21 [.ref 51, .null, .null, .long a3, .null, .int a5, .int a6, .null, .null, .null, .null, .null, .null] [] z Q := by
  unfold wb_X12_make_21 at h
  refine tq_s_iload (i := 6) (by decide +kernel) rfl ?_
  refine tq_s_aload_n (kk := 0) (by decide +kernel) rfl ?_
  refine fg_12_7_51 rfl (by decide +kernel) ?_
  refine tq_icmp_ge (off := 124) (tgt := 151) (by decide +kernel) (by decide +kernel) (fun hc => ?_) (fun hc => ?_)
  · replace h := h.1 hc
    exact tq_to (tq_lk1 (tq_lk1 (tq_lk1 (tq_lk1 (tq_lk1 (tq_lk1 (tq_ld1 (tq_lk1 (tq_lk1 (tq_lk1 (tq_lk1 (tq_lk1 (tq_lk1 tq_l0))))))))))))) (ac_X12_make_151 hB9 h)
  · replace h := h.2 hc
    refine tq_k_bi (n := 8) (v := (8 : Int32)) (by decide +kernel) kb_8 ?_
    refine tq_s_iload (i := 5) (by decide +kernel) rfl ?_
    refine tq_s_imul (by decide +kernel) ?_
    refine tq_s_iload (i := 6) (by decide +kernel) rfl ?_
    refine tq_s_iadd (by decide +kernel) ?_
    refine tq_g_istore (i := 7) (fun v101 => [.ref 51, .null, .null, .long a3, .null, .int a5, .int a6, .int v101, .null, .null, .null, .null, .null]) (by decide +kernel) (by decide) (fun _ => rfl) (fun v101 ev101 => ?_)
    replace h := h v101 ev101
    refine tq_s_aload_n (kk := 0) (by decide +kernel) rfl ?_
    refine fg_12_20_51 rfl (by decide +kernel) ?_
    refine tq_s_iload (i := 7) (by decide +kernel) rfl ?_
    refine tq_s_zald (by decide +kernel) sh_53 h.1 ?_
    replace h := h.2
    refine tq_if_ne (off := 7) (tgt := 54) (by decide +kernel) (by decide +kernel) (fun hc => ?_) (fun hc => ?_)
    · replace h := h.1 hc
      refine tq_k_ic (n := 0) (v := (0 : Int32)) (by decide +kernel) kc_0 ?_
      exact ac_X12_make_55 hB9 hB21 h
    · replace h := h.2 hc
      refine tq_k_ic (n := 1) (v := (1 : Int32)) (by decide +kernel) kc_1 ?_
      refine tq_s_goto (off := 4) (tgt := 55) (by decide +kernel) (by decide +kernel) ?_
      exact ac_X12_make_55 hB9 hB21 h
theorem ac_X12_make_21 {K : Nat × (Nat → Int32)} {x : Nat} {Q : tq_O → tq_S → Prop} {B9 : Int64 → Int32 → tq_S → Prop} {a3 : Int64} {a5 : Int32} {a6 : Int32} {z : tq_S} (hB9 : ∀ (b3 : Int64) (b5 : Int32) (z : tq_S), B9 b3 b5 z → tq_T K 42 x mm_X12_make 9 [.ref 51, .null, .null, .long b3, .null, .int b5, .null, .null, .null, .null, .null, .null, .null] [] z Q) (h : wc_X12_make_21 B9 Q a3 a5 a6 z) : tq_T K 42 x mm_X12_make 21 [.ref 51, .null, .null, .long a3, .null, .int a5, .int a6, .null, .null, .null, .null, .null, .null] [] z Q :=
  tq_lp_T (σ := Int64 × Int32 × tq_S) (s := (a3, a6, z)) (G := fun s => tq_T K 42 x mm_X12_make 21 [.ref 51, .null, .null, .long s.1, .null, .int a5, .int s.2.1, .null, .null, .null, .null, .null, .null] [] s.2.2 Q) (fun B hB s h => ab_X12_make_21 hB9 (fun b3 b6 z h => hB (b3, b6, z) h) h) h
def wc_X12_make_157 (Q : tq_O → tq_S → Prop)  (z : tq_S) : Prop := ∀ z101 : tq_S, z101 = tq_sfi z 3272 (1 : Int32) → Q (.inl none) z101
theorem ac_X12_make_157 {K : Nat × (Nat → Int32)} {x : Nat} {Q : tq_O → tq_S → Prop}  {z : tq_S} (h : wc_X12_make_157 Q z) : tq_T K 42 x mm_X12_make 157 [.ref 51, .null, .null, .null, .null, .null, .null, .null, .null, .null, .null, .null, .null] [] z Q := by
  unfold wc_X12_make_157 at h
  refine tq_s_aload_n (kk := 0) (by decide +kernel) rfl ?_
  refine tq_k_ic (n := 1) (v := (1 : Int32)) (by decide +kernel) kc_1 ?_
  refine fp_12_132_51 rfl (by decide +kernel) ⟨by decide +kernel, by decide +kernel⟩ (fun z101 ez101 => ?_)
  replace h := h z101 ez101
  exact tq_ret_v (st := []) (by decide +kernel) rfl h
def wb_X12_make_9 (B9 : Int64 → Int32 → tq_S → Prop) (Q : tq_O → tq_S → Prop) (a3 : Int64) (a5 : Int32) (z : tq_S) : Prop := (((tq_fi z 3266) ≤ a5 → wc_X12_make_157 Q z) ∧ (¬ (tq_fi z 3266) ≤ a5 → wc_X12_make_21 B9 Q a3 a5 (0 : Int32) z))
def wc_X12_make_9 (Q : tq_O → tq_S → Prop) (a3 : Int64) (a5 : Int32) (z : tq_S) : Prop := tq_lp (σ := Int64 × Int32 × tq_S) (fun B s => wb_X12_make_9 (fun b3 b5 z => B (b3, b5, z)) Q s.1 s.2.1 s.2.2) (a3, a5, z)
theorem ab_X12_make_9 {K : Nat × (Nat → Int32)} {x : Nat} {Q : tq_O → tq_S → Prop} {B9 : Int64 → Int32 → tq_S → Prop} {a3 : Int64} {a5 : Int32} {z : tq_S} (hB9 : ∀ (b3 : Int64) (b5 : Int32) (z : tq_S), B9 b3 b5 z → tq_T K 42 x mm_X12_make 9 [.ref 51, .null, .null, .long b3, .null, .int b5, .null, .null, .null, .null, .null, .null, .null] [] z Q) (h : wb_X12_make_9 B9 Q a3 a5 z) : tq_T K 42 x mm_X12_make 9 [.ref 51, .null, .null, .long a3, .null, .int a5, .null, .null, .null, .null, .null, .null, .null] [] z Q := by
  unfold wb_X12_make_9 at h
  refine tq_s_iload (i := 5) (by decide +kernel) rfl ?_
  refine tq_s_aload_n (kk := 0) (by decide +kernel) rfl ?_
  refine fg_12_13_51 rfl (by decide +kernel) ?_
  refine tq_icmp_ge (off := 142) (tgt := 157) (by decide +kernel) (by decide +kernel) (fun hc => ?_) (fun hc => ?_)
  · replace h := h.1 hc
    exact tq_to (tq_lk1 (tq_lk1 (tq_lk1 (tq_ld1 (tq_lk1 (tq_ld1 (tq_lk1 (tq_lk1 (tq_lk1 (tq_lk1 (tq_lk1 (tq_lk1 (tq_lk1 tq_l0))))))))))))) (ac_X12_make_157 h)
  · replace h := h.2 hc
    refine tq_k_ic (n := 0) (v := (0 : Int32)) (by decide +kernel) kc_0 ?_
    refine tq_s_istore (i := 6) (L9 := [.ref 51, .null, .null, .long a3, .null, .int a5, .int (0 : Int32), .null, .null, .null, .null, .null, .null]) (by decide +kernel) (by decide) rfl ?_
    exact ac_X12_make_21 hB9 h
theorem ac_X12_make_9 {K : Nat × (Nat → Int32)} {x : Nat} {Q : tq_O → tq_S → Prop} {a3 : Int64} {a5 : Int32} {z : tq_S} (h : wc_X12_make_9 Q a3 a5 z) : tq_T K 42 x mm_X12_make 9 [.ref 51, .null, .null, .long a3, .null, .int a5, .null, .null, .null, .null, .null, .null, .null] [] z Q :=
  tq_lp_T (σ := Int64 × Int32 × tq_S) (s := (a3, a5, z)) (G := fun s => tq_T K 42 x mm_X12_make 9 [.ref 51, .null, .null, .long s.1, .null, .int s.2.1, .null, .null, .null, .null, .null, .null, .null] [] s.2.2 Q) (fun B hB s h => ab_X12_make_9 (fun b3 b5 z h => hB (b3, b5, z) h) h) h
def wm_X12_make (a1 : Int64) (z : tq_S) (Q : tq_O → tq_S → Prop) : Prop := wm_X12_all z (tq_wv fun z1 => wc_X12_make_9 Q a1 (0 : Int32) z1)
theorem am_X12_make {K : Nat × (Nat → Int32)} {x : Nat} {z : tq_S} {Q : tq_O → tq_S → Prop} {a1 : Int64} (h : wm_X12_make a1 z Q) : tq_M K 42 x mm_X12_make [.ref 51, .long a1] z Q := by
  unfold wm_X12_make at h
  refine tq_enter (L := [.ref 51, .long a1, .null, .null, .null, .null, .null, .null, .null, .null, .null, .null, .null]) mf_X12_make.1 rfl rfl (Nat.le_of_ble_eq_true rfl) ?_
  refine tq_s_aload_n (kk := 0) (by decide +kernel) rfl ?_
  refine tq_callV (as := []) (st := []) (d1 := 0) (x1 := 0) (x2 := x) (by decide +kernel) ln_12_202 mf_X12_all rfl sh_51 rfl (by decide) np_X12_all rfl (Nat.le_of_ble_eq_true rfl) (by decide) (Nat.zero_add _).symm (tq_M_mono (am_X12_all h) ?_)
  refine tq_wv_e (fun z1 h => ?_)
  refine tq_s_lload_n (kk := 1) (by decide +kernel) rfl ?_
  refine tq_s_lstore_n (kk := 3) (L9 := [.ref 51, .long a1, .null, .long a1, .null, .null, .null, .null, .null, .null, .null, .null, .null]) (by decide +kernel) (by decide) rfl ?_
  refine tq_k_ic (n := 0) (v := (0 : Int32)) (by decide +kernel) kc_0 ?_
  refine tq_s_istore (i := 5) (L9 := [.ref 51, .long a1, .null, .long a1, .null, .int (0 : Int32), .null, .null, .null, .null, .null, .null, .null]) (by decide +kernel) (by decide) rfl ?_
  exact tq_to (tq_lk1 (tq_ld1 (tq_lk1 (tq_lk1 (tq_lk1 (tq_lk1 (tq_lk1 (tq_lk1 (tq_lk1 (tq_lk1 (tq_lk1 (tq_lk1 (tq_lk1 tq_l0))))))))))))) (ac_X12_make_9 h)
def wc_X12_numberOf_154 (B8 : Int64 → Int32 → tq_S → Prop) (B19 : Int64 → Int32 → tq_S → Prop) (B57 : Int64 → Int32 → Int32 → tq_S → Prop) (Q : tq_O → tq_S → Prop) (a1 : Int64) (a3 : Int32) (a4 : Int32) (a5 : Int32) (a6 : Int32) (a7 : Int32) (z : tq_S) : Prop := ∀ v101 : Int32, v101 = a7 + (1 : Int32) → B57 a1 a6 v101 z
theorem ac_X12_numberOf_154 {K : Nat × (Nat → Int32)} {x : Nat} {Q : tq_O → tq_S → Prop} {B8 : Int64 → Int32 → tq_S → Prop} {B19 : Int64 → Int32 → tq_S → Prop} {B57 : Int64 → Int32 → Int32 → tq_S → Prop} {a1 : Int64} {a3 : Int32} {a4 : Int32} {a5 : Int32} {a6 : Int32} {a7 : Int32} {z : tq_S} (hB8 : ∀ (b1 : Int64) (b3 : Int32) (z : tq_S), B8 b1 b3 z → tq_T K 42 x mm_X12_numberOf 8 [.ref 51, .long b1, .null, .int b3, .null, .null, .null, .null, .null] [] z Q) (hB19 : ∀ (b1 : Int64) (b4 : Int32) (z : tq_S), B19 b1 b4 z → tq_T K 42 x mm_X12_numberOf 19 [.ref 51, .long b1, .null, .int a3, .int b4, .null, .null, .null, .null] [] z Q) (hB57 : ∀ (b1 : Int64) (b6 : Int32) (b7 : Int32) (z : tq_S), B57 b1 b6 b7 z → tq_T K 42 x mm_X12_numberOf 57 [.ref 51, .long b1, .null, .int a3, .int a4, .int a5, .int b6, .int b7, .null] [] z Q) (h : wc_X12_numberOf_154 B8 B19 B57 Q a1 a3 a4 a5 a6 a7 z) : tq_T K 42 x mm_X12_numberOf 154 [.ref 51, .long a1, .null, .int a3, .int a4, .int a5, .int a6, .int a7, .null] [] z Q := by
  unfold wc_X12_numberOf_154 at h
  refine tq_g_iinc (i := 7) (fun v101 => [.ref 51, .long a1, .null, .int a3, .int a4, .int a5, .int a6, .int v101, .null]) (by decide +kernel) rfl (1 : Int32) kc_1 (fun _ => rfl) (fun v101 ev101 => ?_)
  replace h := h v101 ev101
  refine tq_s_goto (off := -100) (tgt := 57) (by decide +kernel) (by decide +kernel) ?_
  exact hB57 _ _ _ _ h
def wc_X12_numberOf_131 (B8 : Int64 → Int32 → tq_S → Prop) (B19 : Int64 → Int32 → tq_S → Prop) (B57 : Int64 → Int32 → Int32 → tq_S → Prop) (Q : tq_O → tq_S → Prop) (a1 : Int64) (a3 : Int32) (a4 : Int32) (a5 : Int32) (a7 : Int32) (a8 : Int32) (s0 : Int32) (z : tq_S) : Prop := ((¬ s0 = 0 → wc_X12_numberOf_154 B8 B19 B57 Q a1 a3 a4 a5 s0 a7 z) ∧ (s0 = 0 → wm_X12_count z (tq_wl fun r102 z101 => ∀ v103 : Int64, v103 = (a1 + r102) → wm_X12_take a5 a8 (1 : Int32) z101 (tq_wv fun z104 => wc_X12_numberOf_154 B8 B19 B57 Q v103 a3 a4 a5 s0 a7 z104))))
theorem ac_X12_numberOf_131 {K : Nat × (Nat → Int32)} {x : Nat} {Q : tq_O → tq_S → Prop} {B8 : Int64 → Int32 → tq_S → Prop} {B19 : Int64 → Int32 → tq_S → Prop} {B57 : Int64 → Int32 → Int32 → tq_S → Prop} {a1 : Int64} {a3 : Int32} {a4 : Int32} {a5 : Int32} {a7 : Int32} {a8 : Int32} {s0 : Int32} {z : tq_S} (hB8 : ∀ (b1 : Int64) (b3 : Int32) (z : tq_S), B8 b1 b3 z → tq_T K 42 x mm_X12_numberOf 8 [.ref 51, .long b1, .null, .int b3, .null, .null, .null, .null, .null] [] z Q) (hB19 : ∀ (b1 : Int64) (b4 : Int32) (z : tq_S), B19 b1 b4 z → tq_T K 42 x mm_X12_numberOf 19 [.ref 51, .long b1, .null, .int a3, .int b4, .null, .null, .null, .null] [] z Q) (hB57 : ∀ (b1 : Int64) (b6 : Int32) (b7 : Int32) (z : tq_S), B57 b1 b6 b7 z → tq_T K 42 x mm_X12_numberOf 57 [.ref 51, .long b1, .null, .int a3, .int a4, .int a5, .int b6, .int b7, .null] [] z Q) (h : wc_X12_numberOf_131 B8 B19 B57 Q a1 a3 a4 a5 a7 a8 s0 z) : tq_T K 42 x mm_X12_numberOf 131 [.ref 51, .long a1, .null, .int a3, .int a4, .int a5, .null, .int a7, .int a8] [.int s0] z Q := by
  unfold wc_X12_numberOf_131 at h
  refine tq_s_istore (i := 6) (L9 := [.ref 51, .long a1, .null, .int a3, .int a4, .int a5, .int s0, .int a7, .int a8]) (by decide +kernel) (by decide) rfl ?_
  refine tq_s_iload (i := 6) (by decide +kernel) rfl ?_
  refine tq_if_ne (off := 19) (tgt := 154) (by decide +kernel) (by decide +kernel) (fun hc => ?_) (fun hc => ?_)
  · replace h := h.1 hc
    exact tq_to (tq_lk1 (tq_lk1 (tq_lk1 (tq_lk1 (tq_lk1 (tq_lk1 (tq_lk1 (tq_lk1 (tq_ld1 tq_l0))))))))) (ac_X12_numberOf_154 hB8 hB19 hB57 h)
  · replace h := h.2 hc
    refine tq_s_lload_n (kk := 1) (by decide +kernel) rfl ?_
    refine tq_s_aload_n (kk := 0) (by decide +kernel) rfl ?_
    refine tq_callV (as := []) (st := [.long a1]) (d1 := 41) (x1 := 0) (x2 := x) (by decide +kernel) ln_12_205 mf_X12_count rfl sh_51 rfl (by decide) np_X12_count rfl (Nat.le_of_ble_eq_true rfl) (by decide) (Nat.zero_add _).symm (tq_M_mono (am_X12_count h) ?_)
    refine tq_wl_e (fun r102 z101 h => ?_)
    refine tq_s_ladd (by decide +kernel) ?_
    refine tq_g_lstore_n (kk := 1) (fun v103 => [.ref 51, .long v103, .null, .int a3, .int a4, .int a5, .int s0, .int a7, .int a8]) (by decide +kernel) (by decide) (fun _ => rfl) (fun v103 ev103 => ?_)
    replace h := h v103 ev103
    refine tq_s_aload_n (kk := 0) (by decide +kernel) rfl ?_
    refine tq_s_iload (i := 5) (by decide +kernel) rfl ?_
    refine tq_s_iload (i := 8) (by decide +kernel) rfl ?_
    refine tq_k_ic (n := 1) (v := (1 : Int32)) (by decide +kernel) kc_1 ?_
    refine tq_callV (as := [.int a5, .int a8, .int (1 : Int32)]) (st := []) (d1 := 0) (x1 := 0) (x2 := x) (by decide +kernel) ln_12_244 mf_X12_take rfl sh_51 rfl (by decide) np_X12_take rfl (Nat.le_of_ble_eq_true rfl) (by decide) (Nat.zero_add _).symm (tq_M_mono (am_X12_take h) ?_)
    refine tq_wv_e (fun z104 h => ?_)
    exact tq_to (tq_lk1 (tq_lk1 (tq_lk1 (tq_lk1 (tq_lk1 (tq_lk1 (tq_lk1 (tq_lk1 (tq_ld1 tq_l0))))))))) (ac_X12_numberOf_154 hB8 hB19 hB57 h)
def wc_X12_numberOf_123 (B8 : Int64 → Int32 → tq_S → Prop) (B19 : Int64 → Int32 → tq_S → Prop) (B57 : Int64 → Int32 → Int32 → tq_S → Prop) (Q : tq_O → tq_S → Prop) (a1 : Int64) (a3 : Int32) (a4 : Int32) (a5 : Int32) (a7 : Int32) (a8 : Int32) (s0 : Int32) (s1 : Int32) (z : tq_S) : Prop := ((¬ s1 = s0 → wc_X12_numberOf_131 B8 B19 B57 Q a1 a3 a4 a5 a7 a8 (0 : Int32) z) ∧ (s1 = s0 → wc_X12_numberOf_131 B8 B19 B57 Q a1 a3 a4 a5 a7 a8 (1 : Int32) z))
theorem ac_X12_numberOf_123 {K : Nat × (Nat → Int32)} {x : Nat} {Q : tq_O → tq_S → Prop} {B8 : Int64 → Int32 → tq_S → Prop} {B19 : Int64 → Int32 → tq_S → Prop} {B57 : Int64 → Int32 → Int32 → tq_S → Prop} {a1 : Int64} {a3 : Int32} {a4 : Int32} {a5 : Int32} {a7 : Int32} {a8 : Int32} {s0 : Int32} {s1 : Int32} {z : tq_S} (hB8 : ∀ (b1 : Int64) (b3 : Int32) (z : tq_S), B8 b1 b3 z → tq_T K 42 x mm_X12_numberOf 8 [.ref 51, .long b1, .null, .int b3, .null, .null, .null, .null, .null] [] z Q) (hB19 : ∀ (b1 : Int64) (b4 : Int32) (z : tq_S), B19 b1 b4 z → tq_T K 42 x mm_X12_numberOf 19 [.ref 51, .long b1, .null, .int a3, .int b4, .null, .null, .null, .null] [] z Q) (hB57 : ∀ (b1 : Int64) (b6 : Int32) (b7 : Int32) (z : tq_S), B57 b1 b6 b7 z → tq_T K 42 x mm_X12_numberOf 57 [.ref 51, .long b1, .null, .int a3, .int a4, .int a5, .int b6, .int b7, .null] [] z Q) (h : wc_X12_numberOf_123 B8 B19 B57 Q a1 a3 a4 a5 a7 a8 s0 s1 z) : tq_T K 42 x mm_X12_numberOf 123 [.ref 51, .long a1, .null, .int a3, .int a4, .int a5, .null, .int a7, .int a8] [.int s0, .int s1] z Q := by
  unfold wc_X12_numberOf_123 at h
  refine tq_icmp_ne (off := 7) (tgt := 130) (by decide +kernel) (by decide +kernel) (fun hc => ?_) (fun hc => ?_)
  · replace h := h.1 hc
    refine tq_k_ic (n := 0) (v := (0 : Int32)) (by decide +kernel) kc_0 ?_
    exact ac_X12_numberOf_131 hB8 hB19 hB57 h
  · replace h := h.2 hc
    refine tq_k_ic (n := 1) (v := (1 : Int32)) (by decide +kernel) kc_1 ?_
    refine tq_s_goto (off := 4) (tgt := 131) (by decide +kernel) (by decide +kernel) ?_
    exact ac_X12_numberOf_131 hB8 hB19 hB57 h
def wc_X12_numberOf_160 (B8 : Int64 → Int32 → tq_S → Prop) (B19 : Int64 → Int32 → tq_S → Prop) (Q : tq_O → tq_S → Prop) (a1 : Int64) (a3 : Int32) (a4 : Int32) (z : tq_S) : Prop := ∀ v101 : Int32, v101 = a4 + (1 : Int32) → B19 a1 v101 z
theorem ac_X12_numberOf_160 {K : Nat × (Nat → Int32)} {x : Nat} {Q : tq_O → tq_S → Prop} {B8 : Int64 → Int32 → tq_S → Prop} {B19 : Int64 → Int32 → tq_S → Prop} {a1 : Int64} {a3 : Int32} {a4 : Int32} {z : tq_S} (hB8 : ∀ (b1 : Int64) (b3 : Int32) (z : tq_S), B8 b1 b3 z → tq_T K 42 x mm_X12_numberOf 8 [.ref 51, .long b1, .null, .int b3, .null, .null, .null, .null, .null] [] z Q) (hB19 : ∀ (b1 : Int64) (b4 : Int32) (z : tq_S), B19 b1 b4 z → tq_T K 42 x mm_X12_numberOf 19 [.ref 51, .long b1, .null, .int a3, .int b4, .null, .null, .null, .null] [] z Q) (h : wc_X12_numberOf_160 B8 B19 Q a1 a3 a4 z) : tq_T K 42 x mm_X12_numberOf 160 [.ref 51, .long a1, .null, .int a3, .int a4, .null, .null, .null, .null] [] z Q := by
  unfold wc_X12_numberOf_160 at h
  refine tq_g_iinc (i := 4) (fun v101 => [.ref 51, .long a1, .null, .int a3, .int v101, .null, .null, .null, .null]) (by decide +kernel) rfl (1 : Int32) kc_1 (fun _ => rfl) (fun v101 ev101 => ?_)
  replace h := h v101 ev101
  refine tq_s_goto (off := -144) (tgt := 19) (by decide +kernel) (by decide +kernel) ?_
  exact hB19 _ _ _ h
def wb_X12_numberOf_57 (B8 : Int64 → Int32 → tq_S → Prop) (B19 : Int64 → Int32 → tq_S → Prop) (B57 : Int64 → Int32 → Int32 → tq_S → Prop) (Q : tq_O → tq_S → Prop) (a1 : Int64) (a3 : Int32) (a4 : Int32) (a5 : Int32) (a6 : Int32) (a7 : Int32) (z : tq_S) : Prop := (((3 : Int32) ≤ a7 → wc_X12_numberOf_160 B8 B19 Q a1 a3 a4 z) ∧ (¬ (3 : Int32) ≤ a7 → ((¬ a6 = 0 → wc_X12_numberOf_160 B8 B19 Q a1 a3 a4 z) ∧ (a6 = 0 → wm_X12_choice a5 a7 z (tq_wi fun r102 z101 => ((r102 = (-1 : Int32) → wc_X12_numberOf_154 B8 B19 B57 Q a1 a3 a4 a5 a6 a7 z101) ∧ (¬ r102 = (-1 : Int32) → wm_X12_take a5 r102 (0 : Int32) z101 (tq_wv fun z103 => vp_in a5 64 ∧ ((¬ a7 = 0 → ((¬ a7 = (1 : Int32) → wc_X12_numberOf_123 B8 B19 B57 Q a1 a3 a4 a5 a7 r102 (119 : Int32) (tq_ai z103 56 (Int32.toNatClampNeg a5)) z103) ∧ (a7 = (1 : Int32) → wc_X12_numberOf_123 B8 B19 B57 Q a1 a3 a4 a5 a7 r102 (115 : Int32) (tq_ai z103 56 (Int32.toNatClampNeg a5)) z103))) ∧ (a7 = 0 → wc_X12_numberOf_123 B8 B19 B57 Q a1 a3 a4 a5 a7 r102 (101 : Int32) (tq_ai z103 56 (Int32.toNatClampNeg a5)) z103))))))))))
def wc_X12_numberOf_57 (B8 : Int64 → Int32 → tq_S → Prop) (B19 : Int64 → Int32 → tq_S → Prop) (Q : tq_O → tq_S → Prop) (a1 : Int64) (a3 : Int32) (a4 : Int32) (a5 : Int32) (a6 : Int32) (a7 : Int32) (z : tq_S) : Prop := tq_lp (σ := Int64 × Int32 × Int32 × tq_S) (fun B s => wb_X12_numberOf_57 B8 B19 (fun b1 b6 b7 z => B (b1, b6, b7, z)) Q s.1 a3 a4 a5 s.2.1 s.2.2.1 s.2.2.2) (a1, a6, a7, z)
theorem ab_X12_numberOf_57 {K : Nat × (Nat → Int32)} {x : Nat} {Q : tq_O → tq_S → Prop} {B8 : Int64 → Int32 → tq_S → Prop} {B19 : Int64 → Int32 → tq_S → Prop} {B57 : Int64 → Int32 → Int32 → tq_S → Prop} {a1 : Int64} {a3 : Int32} {a4 : Int32} {a5 : Int32} {a6 : Int32} {a7 : Int32} {z : tq_S} (hB8 : ∀ (b1 : Int64) (b3 : Int32) (z : tq_S), B8 b1 b3 z → tq_T K 42 x mm_X12_numberOf 8 [.ref 51, .long b1, .null, .int b3, .null, .null, .null, .null, .null] [] z Q) (hB19 : ∀ (b1 : Int64) (b4 : Int32) (z : tq_S), B19 b1 b4 z → tq_T K 42 x mm_X12_numberOf 19 [.ref 51, .long b1, .null, .int a3, .int b4, .null, .null, .null, .null] [] z Q) (hB57 : ∀ (b1 : Int64) (b6 : Int32) (b7 : Int32) (z : tq_S), B57 b1 b6 b7 z → tq_T K 42 x mm_X12_numberOf 57 [.ref 51, .long b1, .null, .int a3, .int a4, .int a5, .int b6, .int b7, .null] [] z Q) (h : wb_X12_numberOf_57 B8 B19 B57 Q a1 a3 a4 a5 a6 a7 z) : tq_T K 42 x mm_X12_numberOf 57 [.ref 51, .long a1, .null, .int a3, .int a4, .int a5, .int a6, .int a7, .null] [] z Q := by
  unfold wb_X12_numberOf_57 at h
  refine tq_s_iload (i := 7) (by decide +kernel) rfl ?_
  refine tq_k_ic (n := 3) (v := (3 : Int32)) (by decide +kernel) kc_3 ?_
  refine tq_icmp_ge (off := 100) (tgt := 160) (by decide +kernel) (by decide +kernel) (fun hc => ?_) (fun hc => ?_)
  · replace h := h.1 hc
    exact tq_to (tq_lk1 (tq_lk1 (tq_lk1 (tq_lk1 (tq_lk1 (tq_ld1 (tq_ld1 (tq_ld1 (tq_lk1 tq_l0))))))))) (ac_X12_numberOf_160 hB8 hB19 h)
  · replace h := h.2 hc
    refine tq_s_iload (i := 6) (by decide +kernel) rfl ?_
    refine tq_if_ne (off := 95) (tgt := 160) (by decide +kernel) (by decide +kernel) (fun hc => ?_) (fun hc => ?_)
    · replace h := h.1 hc
      exact tq_to (tq_lk1 (tq_lk1 (tq_lk1 (tq_lk1 (tq_lk1 (tq_ld1 (tq_ld1 (tq_ld1 (tq_lk1 tq_l0))))))))) (ac_X12_numberOf_160 hB8 hB19 h)
    · replace h := h.2 hc
      refine tq_s_aload_n (kk := 0) (by decide +kernel) rfl ?_
      refine tq_s_iload (i := 5) (by decide +kernel) rfl ?_
      refine tq_s_iload (i := 7) (by decide +kernel) rfl ?_
      refine tq_callV (as := [.int a5, .int a7]) (st := []) (d1 := 0) (x1 := 0) (x2 := x) (by decide +kernel) ln_12_241 mf_X12_choice rfl sh_51 rfl (by decide) np_X12_choice rfl (Nat.le_of_ble_eq_true rfl) (by decide) (Nat.zero_add _).symm (tq_M_mono (am_X12_choice h) ?_)
      refine tq_wi_e (fun r102 z101 h => ?_)
      refine tq_s_istore (i := 8) (L9 := [.ref 51, .long a1, .null, .int a3, .int a4, .int a5, .int a6, .int a7, .int r102]) (by decide +kernel) (by decide) rfl ?_
      refine tq_s_iload (i := 8) (by decide +kernel) rfl ?_
      refine tq_k_ic (n := -1) (v := (-1 : Int32)) (by decide +kernel) kc_m1 ?_
      refine tq_icmp_eq (off := 73) (tgt := 154) (by decide +kernel) (by decide +kernel) (fun hc => ?_) (fun hc => ?_)
      · replace h := h.1 hc
        exact tq_to (tq_lk1 (tq_lk1 (tq_lk1 (tq_lk1 (tq_lk1 (tq_lk1 (tq_lk1 (tq_lk1 (tq_ld1 tq_l0))))))))) (ac_X12_numberOf_154 hB8 hB19 hB57 h)
      · replace h := h.2 hc
        refine tq_s_aload_n (kk := 0) (by decide +kernel) rfl ?_
        refine tq_s_iload (i := 5) (by decide +kernel) rfl ?_
        refine tq_s_iload (i := 8) (by decide +kernel) rfl ?_
        refine tq_k_ic (n := 0) (v := (0 : Int32)) (by decide +kernel) kc_0 ?_
        refine tq_callV (as := [.int a5, .int r102, .int (0 : Int32)]) (st := []) (d1 := 0) (x1 := 0) (x2 := x) (by decide +kernel) ln_12_244 mf_X12_take rfl sh_51 rfl (by decide) np_X12_take rfl (Nat.le_of_ble_eq_true rfl) (by decide) (Nat.zero_add _).symm (tq_M_mono (am_X12_take h) ?_)
        refine tq_wv_e (fun z103 h => ?_)
        refine tq_s_aload_n (kk := 0) (by decide +kernel) rfl ?_
        refine fg_12_30_51 rfl (by decide +kernel) ?_
        refine tq_s_iload (i := 5) (by decide +kernel) rfl ?_
        refine tq_s_cald (by decide +kernel) sh_56 h.1 ?_
        replace h := h.2
        refine tq_s_iload (i := 7) (by decide +kernel) rfl ?_
        refine tq_if_ne (off := 8) (tgt := 110) (by decide +kernel) (by decide +kernel) (fun hc => ?_) (fun hc => ?_)
        · replace h := h.1 hc
          refine tq_s_iload (i := 7) (by decide +kernel) rfl ?_
          refine tq_k_ic (n := 1) (v := (1 : Int32)) (by decide +kernel) kc_1 ?_
          refine tq_icmp_ne (off := 8) (tgt := 121) (by decide +kernel) (by decide +kernel) (fun hc => ?_) (fun hc => ?_)
          · replace h := h.1 hc
            refine tq_k_bi (n := 119) (v := (119 : Int32)) (by decide +kernel) kb_119 ?_
            exact tq_to (tq_lk1 (tq_lk1 (tq_lk1 (tq_lk1 (tq_lk1 (tq_lk1 (tq_ld1 (tq_lk1 (tq_lk1 tq_l0))))))))) (ac_X12_numberOf_123 hB8 hB19 hB57 h)
          · replace h := h.2 hc
            refine tq_k_bi (n := 115) (v := (115 : Int32)) (by decide +kernel) kb_115 ?_
            refine tq_s_goto (off := 5) (tgt := 123) (by decide +kernel) (by decide +kernel) ?_
            exact tq_to (tq_lk1 (tq_lk1 (tq_lk1 (tq_lk1 (tq_lk1 (tq_lk1 (tq_ld1 (tq_lk1 (tq_lk1 tq_l0))))))))) (ac_X12_numberOf_123 hB8 hB19 hB57 h)
        · replace h := h.2 hc
          refine tq_k_bi (n := 101) (v := (101 : Int32)) (by decide +kernel) kb_101 ?_
          refine tq_s_goto (off := 16) (tgt := 123) (by decide +kernel) (by decide +kernel) ?_
          exact tq_to (tq_lk1 (tq_lk1 (tq_lk1 (tq_lk1 (tq_lk1 (tq_lk1 (tq_ld1 (tq_lk1 (tq_lk1 tq_l0))))))))) (ac_X12_numberOf_123 hB8 hB19 hB57 h)
theorem ac_X12_numberOf_57 {K : Nat × (Nat → Int32)} {x : Nat} {Q : tq_O → tq_S → Prop} {B8 : Int64 → Int32 → tq_S → Prop} {B19 : Int64 → Int32 → tq_S → Prop} {a1 : Int64} {a3 : Int32} {a4 : Int32} {a5 : Int32} {a6 : Int32} {a7 : Int32} {z : tq_S} (hB8 : ∀ (b1 : Int64) (b3 : Int32) (z : tq_S), B8 b1 b3 z → tq_T K 42 x mm_X12_numberOf 8 [.ref 51, .long b1, .null, .int b3, .null, .null, .null, .null, .null] [] z Q) (hB19 : ∀ (b1 : Int64) (b4 : Int32) (z : tq_S), B19 b1 b4 z → tq_T K 42 x mm_X12_numberOf 19 [.ref 51, .long b1, .null, .int a3, .int b4, .null, .null, .null, .null] [] z Q) (h : wc_X12_numberOf_57 B8 B19 Q a1 a3 a4 a5 a6 a7 z) : tq_T K 42 x mm_X12_numberOf 57 [.ref 51, .long a1, .null, .int a3, .int a4, .int a5, .int a6, .int a7, .null] [] z Q :=
  tq_lp_T (σ := Int64 × Int32 × Int32 × tq_S) (s := (a1, a6, a7, z)) (G := fun s => tq_T K 42 x mm_X12_numberOf 57 [.ref 51, .long s.1, .null, .int a3, .int a4, .int a5, .int s.2.1, .int s.2.2.1, .null] [] s.2.2.2 Q) (fun B hB s h => ab_X12_numberOf_57 hB8 hB19 (fun b1 b6 b7 z h => hB (b1, b6, b7, z) h) h) h
def wc_X12_numberOf_52 (B8 : Int64 → Int32 → tq_S → Prop) (B19 : Int64 → Int32 → tq_S → Prop) (Q : tq_O → tq_S → Prop) (a1 : Int64) (a3 : Int32) (a4 : Int32) (a5 : Int32) (s0 : Int32) (z : tq_S) : Prop := wc_X12_numberOf_57 B8 B19 Q a1 a3 a4 a5 s0 (0 : Int32) z
theorem ac_X12_numberOf_52 {K : Nat × (Nat → Int32)} {x : Nat} {Q : tq_O → tq_S → Prop} {B8 : Int64 → Int32 → tq_S → Prop} {B19 : Int64 → Int32 → tq_S → Prop} {a1 : Int64} {a3 : Int32} {a4 : Int32} {a5 : Int32} {s0 : Int32} {z : tq_S} (hB8 : ∀ (b1 : Int64) (b3 : Int32) (z : tq_S), B8 b1 b3 z → tq_T K 42 x mm_X12_numberOf 8 [.ref 51, .long b1, .null, .int b3, .null, .null, .null, .null, .null] [] z Q) (hB19 : ∀ (b1 : Int64) (b4 : Int32) (z : tq_S), B19 b1 b4 z → tq_T K 42 x mm_X12_numberOf 19 [.ref 51, .long b1, .null, .int a3, .int b4, .null, .null, .null, .null] [] z Q) (h : wc_X12_numberOf_52 B8 B19 Q a1 a3 a4 a5 s0 z) : tq_T K 42 x mm_X12_numberOf 52 [.ref 51, .long a1, .null, .int a3, .int a4, .int a5, .null, .null, .null] [.int s0] z Q := by
  unfold wc_X12_numberOf_52 at h
  refine tq_s_istore (i := 6) (L9 := [.ref 51, .long a1, .null, .int a3, .int a4, .int a5, .int s0, .null, .null]) (by decide +kernel) (by decide) rfl ?_
  refine tq_k_ic (n := 0) (v := (0 : Int32)) (by decide +kernel) kc_0 ?_
  refine tq_s_istore (i := 7) (L9 := [.ref 51, .long a1, .null, .int a3, .int a4, .int a5, .int s0, .int (0 : Int32), .null]) (by decide +kernel) (by decide) rfl ?_
  exact ac_X12_numberOf_57 hB8 hB19 h
def wc_X12_numberOf_166 (B8 : Int64 → Int32 → tq_S → Prop) (Q : tq_O → tq_S → Prop) (a1 : Int64) (a3 : Int32) (z : tq_S) : Prop := ∀ v101 : Int32, v101 = a3 + (1 : Int32) → B8 a1 v101 z
theorem ac_X12_numberOf_166 {K : Nat × (Nat → Int32)} {x : Nat} {Q : tq_O → tq_S → Prop} {B8 : Int64 → Int32 → tq_S → Prop} {a1 : Int64} {a3 : Int32} {z : tq_S} (hB8 : ∀ (b1 : Int64) (b3 : Int32) (z : tq_S), B8 b1 b3 z → tq_T K 42 x mm_X12_numberOf 8 [.ref 51, .long b1, .null, .int b3, .null, .null, .null, .null, .null] [] z Q) (h : wc_X12_numberOf_166 B8 Q a1 a3 z) : tq_T K 42 x mm_X12_numberOf 166 [.ref 51, .long a1, .null, .int a3, .null, .null, .null, .null, .null] [] z Q := by
  unfold wc_X12_numberOf_166 at h
  refine tq_g_iinc (i := 3) (fun v101 => [.ref 51, .long a1, .null, .int v101, .null, .null, .null, .null, .null]) (by decide +kernel) rfl (1 : Int32) kc_1 (fun _ => rfl) (fun v101 ev101 => ?_)
  replace h := h v101 ev101
  refine tq_s_goto (off := -161) (tgt := 8) (by decide +kernel) (by decide +kernel) ?_
  exact hB8 _ _ _ h
def wb_X12_numberOf_19 (B8 : Int64 → Int32 → tq_S → Prop) (B19 : Int64 → Int32 → tq_S → Prop) (Q : tq_O → tq_S → Prop) (a1 : Int64) (a3 : Int32) (a4 : Int32) (z : tq_S) : Prop := (((tq_fi z 3265) ≤ a4 → wc_X12_numberOf_166 B8 Q a1 a3 z) ∧ (¬ (tq_fi z 3265) ≤ a4 → ∀ v101 : Int32, v101 = (((8 : Int32) * a3) + a4) → vp_in v101 64 ∧ ((¬ (tq_ai z 53 (Int32.toNatClampNeg v101)) = 0 → wc_X12_numberOf_52 B8 B19 Q a1 a3 a4 v101 (0 : Int32) z) ∧ ((tq_ai z 53 (Int32.toNatClampNeg v101)) = 0 → wc_X12_numberOf_52 B8 B19 Q a1 a3 a4 v101 (1 : Int32) z))))
def wc_X12_numberOf_19 (B8 : Int64 → Int32 → tq_S → Prop) (Q : tq_O → tq_S → Prop) (a1 : Int64) (a3 : Int32) (a4 : Int32) (z : tq_S) : Prop := tq_lp (σ := Int64 × Int32 × tq_S) (fun B s => wb_X12_numberOf_19 B8 (fun b1 b4 z => B (b1, b4, z)) Q s.1 a3 s.2.1 s.2.2) (a1, a4, z)
theorem ab_X12_numberOf_19 {K : Nat × (Nat → Int32)} {x : Nat} {Q : tq_O → tq_S → Prop} {B8 : Int64 → Int32 → tq_S → Prop} {B19 : Int64 → Int32 → tq_S → Prop} {a1 : Int64} {a3 : Int32} {a4 : Int32} {z : tq_S} (hB8 : ∀ (b1 : Int64) (b3 : Int32) (z : tq_S), B8 b1 b3 z → tq_T K 42 x mm_X12_numberOf 8 [.ref 51, .long b1, .null, .int b3, .null, .null, .null, .null, .null] [] z Q) (hB19 : ∀ (b1 : Int64) (b4 : Int32) (z : tq_S), B19 b1 b4 z → tq_T K 42 x mm_X12_numberOf 19 [.ref 51, .long b1, .null, .int a3, .int b4, .null, .null, .null, .null] [] z Q) (h : wb_X12_numberOf_19 B8 B19 Q a1 a3 a4 z) : tq_T K 42 x mm_X12_numberOf 19 [.ref 51, .long a1, .null, .int a3, .int a4, .null, .null, .null, .null] [] z Q := by
  unfold wb_X12_numberOf_19 at h
  refine tq_s_iload (i := 4) (by decide +kernel) rfl ?_
  refine tq_s_aload_n (kk := 0) (by decide +kernel) rfl ?_
  refine fg_12_7_51 rfl (by decide +kernel) ?_
  refine tq_icmp_ge (off := 141) (tgt := 166) (by decide +kernel) (by decide +kernel) (fun hc => ?_) (fun hc => ?_)
  · replace h := h.1 hc
    exact tq_to (tq_lk1 (tq_lk1 (tq_lk1 (tq_lk1 (tq_ld1 (tq_lk1 (tq_lk1 (tq_lk1 (tq_lk1 tq_l0))))))))) (ac_X12_numberOf_166 hB8 h)
  · replace h := h.2 hc
    refine tq_k_bi (n := 8) (v := (8 : Int32)) (by decide +kernel) kb_8 ?_
    refine tq_s_iload_n (kk := 3) (by decide +kernel) rfl ?_
    refine tq_s_imul (by decide +kernel) ?_
    refine tq_s_iload (i := 4) (by decide +kernel) rfl ?_
    refine tq_s_iadd (by decide +kernel) ?_
    refine tq_g_istore (i := 5) (fun v101 => [.ref 51, .long a1, .null, .int a3, .int a4, .int v101, .null, .null, .null]) (by decide +kernel) (by decide) (fun _ => rfl) (fun v101 ev101 => ?_)
    replace h := h v101 ev101
    refine tq_s_aload_n (kk := 0) (by decide +kernel) rfl ?_
    refine fg_12_20_51 rfl (by decide +kernel) ?_
    refine tq_s_iload (i := 5) (by decide +kernel) rfl ?_
    refine tq_s_zald (by decide +kernel) sh_53 h.1 ?_
    replace h := h.2
    refine tq_if_ne (off := 7) (tgt := 51) (by decide +kernel) (by decide +kernel) (fun hc => ?_) (fun hc => ?_)
    · replace h := h.1 hc
      refine tq_k_ic (n := 0) (v := (0 : Int32)) (by decide +kernel) kc_0 ?_
      exact ac_X12_numberOf_52 hB8 hB19 h
    · replace h := h.2 hc
      refine tq_k_ic (n := 1) (v := (1 : Int32)) (by decide +kernel) kc_1 ?_
      refine tq_s_goto (off := 4) (tgt := 52) (by decide +kernel) (by decide +kernel) ?_
      exact ac_X12_numberOf_52 hB8 hB19 h
theorem ac_X12_numberOf_19 {K : Nat × (Nat → Int32)} {x : Nat} {Q : tq_O → tq_S → Prop} {B8 : Int64 → Int32 → tq_S → Prop} {a1 : Int64} {a3 : Int32} {a4 : Int32} {z : tq_S} (hB8 : ∀ (b1 : Int64) (b3 : Int32) (z : tq_S), B8 b1 b3 z → tq_T K 42 x mm_X12_numberOf 8 [.ref 51, .long b1, .null, .int b3, .null, .null, .null, .null, .null] [] z Q) (h : wc_X12_numberOf_19 B8 Q a1 a3 a4 z) : tq_T K 42 x mm_X12_numberOf 19 [.ref 51, .long a1, .null, .int a3, .int a4, .null, .null, .null, .null] [] z Q :=
  tq_lp_T (σ := Int64 × Int32 × tq_S) (s := (a1, a4, z)) (G := fun s => tq_T K 42 x mm_X12_numberOf 19 [.ref 51, .long s.1, .null, .int a3, .int s.2.1, .null, .null, .null, .null] [] s.2.2 Q) (fun B hB s h => ab_X12_numberOf_19 hB8 (fun b1 b4 z h => hB (b1, b4, z) h) h) h
def wb_X12_numberOf_8 (B8 : Int64 → Int32 → tq_S → Prop) (Q : tq_O → tq_S → Prop) (a1 : Int64) (a3 : Int32) (z : tq_S) : Prop := (((tq_fi z 3266) ≤ a3 → Q (.inl (some (.long a1))) z) ∧ (¬ (tq_fi z 3266) ≤ a3 → wc_X12_numberOf_19 B8 Q a1 a3 (0 : Int32) z))
def wc_X12_numberOf_8 (Q : tq_O → tq_S → Prop) (a1 : Int64) (a3 : Int32) (z : tq_S) : Prop := tq_lp (σ := Int64 × Int32 × tq_S) (fun B s => wb_X12_numberOf_8 (fun b1 b3 z => B (b1, b3, z)) Q s.1 s.2.1 s.2.2) (a1, a3, z)
theorem ab_X12_numberOf_8 {K : Nat × (Nat → Int32)} {x : Nat} {Q : tq_O → tq_S → Prop} {B8 : Int64 → Int32 → tq_S → Prop} {a1 : Int64} {a3 : Int32} {z : tq_S} (hB8 : ∀ (b1 : Int64) (b3 : Int32) (z : tq_S), B8 b1 b3 z → tq_T K 42 x mm_X12_numberOf 8 [.ref 51, .long b1, .null, .int b3, .null, .null, .null, .null, .null] [] z Q) (h : wb_X12_numberOf_8 B8 Q a1 a3 z) : tq_T K 42 x mm_X12_numberOf 8 [.ref 51, .long a1, .null, .int a3, .null, .null, .null, .null, .null] [] z Q := by
  unfold wb_X12_numberOf_8 at h
  refine tq_s_iload_n (kk := 3) (by decide +kernel) rfl ?_
  refine tq_s_aload_n (kk := 0) (by decide +kernel) rfl ?_
  refine fg_12_13_51 rfl (by decide +kernel) ?_
  refine tq_icmp_ge (off := 159) (tgt := 172) (by decide +kernel) (by decide +kernel) (fun hc => ?_) (fun hc => ?_)
  · replace h := h.1 hc
    refine tq_s_lload_n (kk := 1) (by decide +kernel) rfl ?_
    exact tq_ret_l (st := []) (by decide +kernel) rfl h
  · replace h := h.2 hc
    refine tq_k_ic (n := 0) (v := (0 : Int32)) (by decide +kernel) kc_0 ?_
    refine tq_s_istore (i := 4) (L9 := [.ref 51, .long a1, .null, .int a3, .int (0 : Int32), .null, .null, .null, .null]) (by decide +kernel) (by decide) rfl ?_
    exact ac_X12_numberOf_19 hB8 h
theorem ac_X12_numberOf_8 {K : Nat × (Nat → Int32)} {x : Nat} {Q : tq_O → tq_S → Prop} {a1 : Int64} {a3 : Int32} {z : tq_S} (h : wc_X12_numberOf_8 Q a1 a3 z) : tq_T K 42 x mm_X12_numberOf 8 [.ref 51, .long a1, .null, .int a3, .null, .null, .null, .null, .null] [] z Q :=
  tq_lp_T (σ := Int64 × Int32 × tq_S) (s := (a1, a3, z)) (G := fun s => tq_T K 42 x mm_X12_numberOf 8 [.ref 51, .long s.1, .null, .int s.2.1, .null, .null, .null, .null, .null] [] s.2.2 Q) (fun B hB s h => ab_X12_numberOf_8 (fun b1 b3 z h => hB (b1, b3, z) h) h) h
def wm_X12_numberOf  (z : tq_S) (Q : tq_O → tq_S → Prop) : Prop := wm_X12_all z (tq_wv fun z1 => wc_X12_numberOf_8 Q (0 : Int64) (0 : Int32) z1)
theorem am_X12_numberOf {K : Nat × (Nat → Int32)} {x : Nat} {z : tq_S} {Q : tq_O → tq_S → Prop}  (h : wm_X12_numberOf z Q) : tq_M K 42 x mm_X12_numberOf [.ref 51] z Q := by
  unfold wm_X12_numberOf at h
  refine tq_enter (L := [.ref 51, .null, .null, .null, .null, .null, .null, .null, .null]) mf_X12_numberOf.1 rfl rfl (Nat.le_of_ble_eq_true rfl) ?_
  refine tq_s_aload_n (kk := 0) (by decide +kernel) rfl ?_
  refine tq_callV (as := []) (st := []) (d1 := 0) (x1 := 0) (x2 := x) (by decide +kernel) ln_12_202 mf_X12_all rfl sh_51 rfl (by decide) np_X12_all rfl (Nat.le_of_ble_eq_true rfl) (by decide) (Nat.zero_add _).symm (tq_M_mono (am_X12_all h) ?_)
  refine tq_wv_e (fun z1 h => ?_)
  refine tq_k_lc (n := 0) (v := (0 : Int64)) (by decide +kernel) (by decide +kernel) ?_
  refine tq_s_lstore_n (kk := 1) (L9 := [.ref 51, .long (0 : Int64), .null, .null, .null, .null, .null, .null, .null]) (by decide +kernel) (by decide) rfl ?_
  refine tq_k_ic (n := 0) (v := (0 : Int32)) (by decide +kernel) kc_0 ?_
  refine tq_s_istore_n (kk := 3) (L9 := [.ref 51, .long (0 : Int64), .null, .int (0 : Int32), .null, .null, .null, .null, .null]) (by decide +kernel) (by decide) rfl ?_
  exact ac_X12_numberOf_8 h
def wc_X12_keepUndo_71 (B11 : Int32 → tq_S → Prop) (Q : tq_O → tq_S → Prop) (a1 : Int32) (z : tq_S) : Prop := ∀ v101 : Int32, v101 = a1 + (1 : Int32) → B11 v101 z
theorem ac_X12_keepUndo_71 {K : Nat × (Nat → Int32)} {x : Nat} {Q : tq_O → tq_S → Prop} {B11 : Int32 → tq_S → Prop} {a1 : Int32} {z : tq_S} (hB11 : ∀ (b1 : Int32) (z : tq_S), B11 b1 z → tq_T K 0 x mm_X12_keepUndo 11 [.ref 51, .int b1, .null] [] z Q) (h : wc_X12_keepUndo_71 B11 Q a1 z) : tq_T K 0 x mm_X12_keepUndo 71 [.ref 51, .int a1, .null] [] z Q := by
  unfold wc_X12_keepUndo_71 at h
  refine tq_g_iinc (i := 1) (fun v101 => [.ref 51, .int v101, .null]) (by decide +kernel) rfl (1 : Int32) kc_1 (fun _ => rfl) (fun v101 ev101 => ?_)
  replace h := h v101 ev101
  refine tq_s_goto (off := -63) (tgt := 11) (by decide +kernel) (by decide +kernel) ?_
  exact hB11 _ _ h
def wb_X12_keepUndo_35 (B11 : Int32 → tq_S → Prop) (B35 : Int32 → tq_S → Prop) (Q : tq_O → tq_S → Prop) (a1 : Int32) (a2 : Int32) (z : tq_S) : Prop := (((64 : Int32) ≤ a2 → wc_X12_keepUndo_71 B11 Q a1 z) ∧ (¬ (64 : Int32) ≤ a2 → vp_in (((64 : Int32) * (a1 + (1 : Int32))) + a2) 640 ∧ vp_in (((64 : Int32) * a1) + a2) 640 ∧ ∀ z101 : tq_S, z101 = tq_sai z 59 (upd (tq_ai z 59) (Int32.toNatClampNeg (((64 : Int32) * a1) + a2)) (vp_nar .char (tq_ai z 59 (Int32.toNatClampNeg (((64 : Int32) * (a1 + (1 : Int32))) + a2))))) → ∀ v102 : Int32, v102 = a2 + (1 : Int32) → B35 v102 z101))
def wc_X12_keepUndo_35 (B11 : Int32 → tq_S → Prop) (Q : tq_O → tq_S → Prop) (a1 : Int32) (a2 : Int32) (z : tq_S) : Prop := tq_lp (σ := Int32 × tq_S) (fun B s => wb_X12_keepUndo_35 B11 (fun b2 z => B (b2, z)) Q a1 s.1 s.2) (a2, z)
theorem ab_X12_keepUndo_35 {K : Nat × (Nat → Int32)} {x : Nat} {Q : tq_O → tq_S → Prop} {B11 : Int32 → tq_S → Prop} {B35 : Int32 → tq_S → Prop} {a1 : Int32} {a2 : Int32} {z : tq_S} (hB11 : ∀ (b1 : Int32) (z : tq_S), B11 b1 z → tq_T K 0 x mm_X12_keepUndo 11 [.ref 51, .int b1, .null] [] z Q) (hB35 : ∀ (b2 : Int32) (z : tq_S), B35 b2 z → tq_T K 0 x mm_X12_keepUndo 35 [.ref 51, .int a1, .int b2] [] z Q) (h : wb_X12_keepUndo_35 B11 B35 Q a1 a2 z) : tq_T K 0 x mm_X12_keepUndo 35 [.ref 51, .int a1, .int a2] [] z Q := by
  unfold wb_X12_keepUndo_35 at h
  refine tq_s_iload_n (kk := 2) (by decide +kernel) rfl ?_
  refine tq_k_bi (n := 64) (v := (64 : Int32)) (by decide +kernel) kb_64 ?_
  refine tq_icmp_ge (off := 33) (tgt := 71) (by decide +kernel) (by decide +kernel) (fun hc => ?_) (fun hc => ?_)
  · replace h := h.1 hc
    exact tq_to (tq_lk1 (tq_lk1 (tq_ld1 tq_l0))) (ac_X12_keepUndo_71 hB11 h)
  · replace h := h.2 hc
    refine tq_s_aload_n (kk := 0) (by decide +kernel) rfl ?_
    refine fg_12_40_51 rfl (by decide +kernel) ?_
    refine tq_k_bi (n := 64) (v := (64 : Int32)) (by decide +kernel) kb_64 ?_
    refine tq_s_iload_n (kk := 1) (by decide +kernel) rfl ?_
    refine tq_s_imul (by decide +kernel) ?_
    refine tq_s_iload_n (kk := 2) (by decide +kernel) rfl ?_
    refine tq_s_iadd (by decide +kernel) ?_
    refine tq_s_aload_n (kk := 0) (by decide +kernel) rfl ?_
    refine fg_12_40_51 rfl (by decide +kernel) ?_
    refine tq_k_bi (n := 64) (v := (64 : Int32)) (by decide +kernel) kb_64 ?_
    refine tq_s_iload_n (kk := 1) (by decide +kernel) rfl ?_
    refine tq_k_ic (n := 1) (v := (1 : Int32)) (by decide +kernel) kc_1 ?_
    refine tq_s_iadd (by decide +kernel) ?_
    refine tq_s_imul (by decide +kernel) ?_
    refine tq_s_iload_n (kk := 2) (by decide +kernel) rfl ?_
    refine tq_s_iadd (by decide +kernel) ?_
    refine tq_s_cald (by decide +kernel) sh_59 h.1 ?_
    replace h := h.2
    refine tq_g_cast (by decide +kernel) sh_59 h.1 (fun z101 ez101 => ?_)
    replace h := h.2 z101 ez101
    refine tq_g_iinc (i := 2) (fun v102 => [.ref 51, .int a1, .int v102]) (by decide +kernel) rfl (1 : Int32) kc_1 (fun _ => rfl) (fun v102 ev102 => ?_)
    replace h := h v102 ev102
    refine tq_s_goto (off := -33) (tgt := 35) (by decide +kernel) (by decide +kernel) ?_
    exact hB35 _ _ h
theorem ac_X12_keepUndo_35 {K : Nat × (Nat → Int32)} {x : Nat} {Q : tq_O → tq_S → Prop} {B11 : Int32 → tq_S → Prop} {a1 : Int32} {a2 : Int32} {z : tq_S} (hB11 : ∀ (b1 : Int32) (z : tq_S), B11 b1 z → tq_T K 0 x mm_X12_keepUndo 11 [.ref 51, .int b1, .null] [] z Q) (h : wc_X12_keepUndo_35 B11 Q a1 a2 z) : tq_T K 0 x mm_X12_keepUndo 35 [.ref 51, .int a1, .int a2] [] z Q :=
  tq_lp_T (σ := Int32 × tq_S) (s := (a2, z)) (G := fun s => tq_T K 0 x mm_X12_keepUndo 35 [.ref 51, .int a1, .int s.1] [] s.2 Q) (fun B hB s h => ab_X12_keepUndo_35 hB11 (fun b2 z h => hB (b2, z) h) h) h
def wc_X12_keepUndo_134 (Q : tq_O → tq_S → Prop)  (z : tq_S) : Prop := ∀ z101 : tq_S, z101 = tq_sfi z 3276 ((tq_fi z 3276) + (1 : Int32)) → Q (.inl none) z101
theorem ac_X12_keepUndo_134 {K : Nat × (Nat → Int32)} {x : Nat} {Q : tq_O → tq_S → Prop}  {z : tq_S} (h : wc_X12_keepUndo_134 Q z) : tq_T K 0 x mm_X12_keepUndo 134 [.ref 51, .null, .null] [] z Q := by
  unfold wc_X12_keepUndo_134 at h
  refine tq_s_aload_n (kk := 0) (by decide +kernel) rfl ?_
  refine tq_s_dup (by decide +kernel) rfl ?_
  refine fg_12_139_51 rfl (by decide +kernel) ?_
  refine tq_k_ic (n := 1) (v := (1 : Int32)) (by decide +kernel) kc_1 ?_
  refine tq_s_iadd (by decide +kernel) ?_
  refine fp_12_139_51 rfl (by decide +kernel) (fun z101 ez101 => ?_)
  replace h := h z101 ez101
  exact tq_ret_v (st := []) (by decide +kernel) rfl h
def wb_X12_keepUndo_102 (B102 : Int32 → tq_S → Prop) (Q : tq_O → tq_S → Prop) (a1 : Int32) (z : tq_S) : Prop := (((64 : Int32) ≤ a1 → wc_X12_keepUndo_134 Q z) ∧ (¬ (64 : Int32) ≤ a1 → vp_in a1 64 ∧ vp_in (((64 : Int32) * (tq_fi z 3276)) + a1) 640 ∧ ∀ z101 : tq_S, z101 = tq_sai z 59 (upd (tq_ai z 59) (Int32.toNatClampNeg (((64 : Int32) * (tq_fi z 3276)) + a1)) (vp_nar .char (tq_ai z 56 (Int32.toNatClampNeg a1)))) → ∀ v102 : Int32, v102 = a1 + (1 : Int32) → B102 v102 z101))
def wc_X12_keepUndo_102 (Q : tq_O → tq_S → Prop) (a1 : Int32) (z : tq_S) : Prop := tq_lp (σ := Int32 × tq_S) (fun B s => wb_X12_keepUndo_102 (fun b1 z => B (b1, z)) Q s.1 s.2) (a1, z)
theorem ab_X12_keepUndo_102 {K : Nat × (Nat → Int32)} {x : Nat} {Q : tq_O → tq_S → Prop} {B102 : Int32 → tq_S → Prop} {a1 : Int32} {z : tq_S} (hB102 : ∀ (b1 : Int32) (z : tq_S), B102 b1 z → tq_T K 0 x mm_X12_keepUndo 102 [.ref 51, .int b1, .null] [] z Q) (h : wb_X12_keepUndo_102 B102 Q a1 z) : tq_T K 0 x mm_X12_keepUndo 102 [.ref 51, .int a1, .null] [] z Q := by
  unfold wb_X12_keepUndo_102 at h
  refine tq_s_iload_n (kk := 1) (by decide +kernel) rfl ?_
  refine tq_k_bi (n := 64) (v := (64 : Int32)) (by decide +kernel) kb_64 ?_
  refine tq_icmp_ge (off := 29) (tgt := 134) (by decide +kernel) (by decide +kernel) (fun hc => ?_) (fun hc => ?_)
  · replace h := h.1 hc
    exact tq_to (tq_lk1 (tq_ld1 (tq_lk1 tq_l0))) (ac_X12_keepUndo_134 h)
  · replace h := h.2 hc
    refine tq_s_aload_n (kk := 0) (by decide +kernel) rfl ?_
    refine fg_12_40_51 rfl (by decide +kernel) ?_
    refine tq_k_bi (n := 64) (v := (64 : Int32)) (by decide +kernel) kb_64 ?_
    refine tq_s_aload_n (kk := 0) (by decide +kernel) rfl ?_
    refine fg_12_139_51 rfl (by decide +kernel) ?_
    refine tq_s_imul (by decide +kernel) ?_
    refine tq_s_iload_n (kk := 1) (by decide +kernel) rfl ?_
    refine tq_s_iadd (by decide +kernel) ?_
    refine tq_s_aload_n (kk := 0) (by decide +kernel) rfl ?_
    refine fg_12_30_51 rfl (by decide +kernel) ?_
    refine tq_s_iload_n (kk := 1) (by decide +kernel) rfl ?_
    refine tq_s_cald (by decide +kernel) sh_56 h.1 ?_
    replace h := h.2
    refine tq_g_cast (by decide +kernel) sh_59 h.1 (fun z101 ez101 => ?_)
    replace h := h.2 z101 ez101
    refine tq_g_iinc (i := 1) (fun v102 => [.ref 51, .int v102, .null]) (by decide +kernel) rfl (1 : Int32) kc_1 (fun _ => rfl) (fun v102 ev102 => ?_)
    replace h := h v102 ev102
    refine tq_s_goto (off := -29) (tgt := 102) (by decide +kernel) (by decide +kernel) ?_
    exact hB102 _ _ h
theorem ac_X12_keepUndo_102 {K : Nat × (Nat → Int32)} {x : Nat} {Q : tq_O → tq_S → Prop} {a1 : Int32} {z : tq_S} (h : wc_X12_keepUndo_102 Q a1 z) : tq_T K 0 x mm_X12_keepUndo 102 [.ref 51, .int a1, .null] [] z Q :=
  tq_lp_T (σ := Int32 × tq_S) (s := (a1, z)) (G := fun s => tq_T K 0 x mm_X12_keepUndo 102 [.ref 51, .int s.1, .null] [] s.2 Q) (fun B hB s h => ab_X12_keepUndo_102 (fun b1 z h => hB (b1, z) h) h) h
def wc_X12_keepUndo_87 (Q : tq_O → tq_S → Prop)  (z : tq_S) : Prop := vp_in (tq_fi z 3276) 10 ∧ ∀ z101 : tq_S, z101 = tq_sai z 58 (upd (tq_ai z 58) (Int32.toNatClampNeg (tq_fi z 3276)) (vp_nar .boolean (tq_fi z 3272))) → wc_X12_keepUndo_102 Q (0 : Int32) z101
theorem ac_X12_keepUndo_87 {K : Nat × (Nat → Int32)} {x : Nat} {Q : tq_O → tq_S → Prop}  {z : tq_S} (h : wc_X12_keepUndo_87 Q z) : tq_T K 0 x mm_X12_keepUndo 87 [.ref 51, .null, .null] [] z Q := by
  unfold wc_X12_keepUndo_87 at h
  refine tq_s_aload_n (kk := 0) (by decide +kernel) rfl ?_
  refine fg_12_37_51 rfl (by decide +kernel) ?_
  refine tq_s_aload_n (kk := 0) (by decide +kernel) rfl ?_
  refine fg_12_139_51 rfl (by decide +kernel) ?_
  refine tq_s_aload_n (kk := 0) (by decide +kernel) rfl ?_
  refine fg_12_132_51 rfl (by decide +kernel) ?_
  refine tq_g_zast (by decide +kernel) sh_58 h.1 (fun z101 ez101 => ?_)
  replace h := h.2 z101 ez101
  refine tq_k_ic (n := 0) (v := (0 : Int32)) (by decide +kernel) kc_0 ?_
  refine tq_s_istore_n (kk := 1) (L9 := [.ref 51, .int (0 : Int32), .null]) (by decide +kernel) (by decide) rfl ?_
  exact ac_X12_keepUndo_102 h
def wc_X12_keepUndo_77 (Q : tq_O → tq_S → Prop)  (z : tq_S) : Prop := ∀ z101 : tq_S, z101 = tq_sfi z 3276 ((tq_fi z 3276) - (1 : Int32)) → wc_X12_keepUndo_87 Q z101
theorem ac_X12_keepUndo_77 {K : Nat × (Nat → Int32)} {x : Nat} {Q : tq_O → tq_S → Prop}  {z : tq_S} (h : wc_X12_keepUndo_77 Q z) : tq_T K 0 x mm_X12_keepUndo 77 [.ref 51, .null, .null] [] z Q := by
  unfold wc_X12_keepUndo_77 at h
  refine tq_s_aload_n (kk := 0) (by decide +kernel) rfl ?_
  refine tq_s_dup (by decide +kernel) rfl ?_
  refine fg_12_139_51 rfl (by decide +kernel) ?_
  refine tq_k_ic (n := 1) (v := (1 : Int32)) (by decide +kernel) kc_1 ?_
  refine tq_s_isub (by decide +kernel) ?_
  refine fp_12_139_51 rfl (by decide +kernel) (fun z101 ez101 => ?_)
  replace h := h z101 ez101
  exact ac_X12_keepUndo_87 h
def wb_X12_keepUndo_11 (B11 : Int32 → tq_S → Prop) (Q : tq_O → tq_S → Prop) (a1 : Int32) (z : tq_S) : Prop := (((10 : Int32) ≤ (a1 + (1 : Int32)) → wc_X12_keepUndo_77 Q z) ∧ (¬ (10 : Int32) ≤ (a1 + (1 : Int32)) → vp_in (a1 + (1 : Int32)) 10 ∧ vp_in a1 10 ∧ ∀ z101 : tq_S, z101 = tq_sai z 58 (upd (tq_ai z 58) (Int32.toNatClampNeg a1) (vp_nar .boolean (tq_ai z 58 (Int32.toNatClampNeg (a1 + (1 : Int32)))))) → wc_X12_keepUndo_35 B11 Q a1 (0 : Int32) z101))
def wc_X12_keepUndo_11 (Q : tq_O → tq_S → Prop) (a1 : Int32) (z : tq_S) : Prop := tq_lp (σ := Int32 × tq_S) (fun B s => wb_X12_keepUndo_11 (fun b1 z => B (b1, z)) Q s.1 s.2) (a1, z)
theorem ab_X12_keepUndo_11 {K : Nat × (Nat → Int32)} {x : Nat} {Q : tq_O → tq_S → Prop} {B11 : Int32 → tq_S → Prop} {a1 : Int32} {z : tq_S} (hB11 : ∀ (b1 : Int32) (z : tq_S), B11 b1 z → tq_T K 0 x mm_X12_keepUndo 11 [.ref 51, .int b1, .null] [] z Q) (h : wb_X12_keepUndo_11 B11 Q a1 z) : tq_T K 0 x mm_X12_keepUndo 11 [.ref 51, .int a1, .null] [] z Q := by
  unfold wb_X12_keepUndo_11 at h
  refine tq_s_iload_n (kk := 1) (by decide +kernel) rfl ?_
  refine tq_k_ic (n := 1) (v := (1 : Int32)) (by decide +kernel) kc_1 ?_
  refine tq_s_iadd (by decide +kernel) ?_
  refine tq_k_bi (n := 10) (v := (10 : Int32)) (by decide +kernel) kb_10 ?_
  refine tq_icmp_ge (off := 61) (tgt := 77) (by decide +kernel) (by decide +kernel) (fun hc => ?_) (fun hc => ?_)
  · replace h := h.1 hc
    exact tq_to (tq_lk1 (tq_ld1 (tq_lk1 tq_l0))) (ac_X12_keepUndo_77 h)
  · replace h := h.2 hc
    refine tq_s_aload_n (kk := 0) (by decide +kernel) rfl ?_
    refine fg_12_37_51 rfl (by decide +kernel) ?_
    refine tq_s_iload_n (kk := 1) (by decide +kernel) rfl ?_
    refine tq_s_aload_n (kk := 0) (by decide +kernel) rfl ?_
    refine fg_12_37_51 rfl (by decide +kernel) ?_
    refine tq_s_iload_n (kk := 1) (by decide +kernel) rfl ?_
    refine tq_k_ic (n := 1) (v := (1 : Int32)) (by decide +kernel) kc_1 ?_
    refine tq_s_iadd (by decide +kernel) ?_
    refine tq_s_zald (by decide +kernel) sh_58 h.1 ?_
    replace h := h.2
    refine tq_g_zast (by decide +kernel) sh_58 h.1 (fun z101 ez101 => ?_)
    replace h := h.2 z101 ez101
    refine tq_k_ic (n := 0) (v := (0 : Int32)) (by decide +kernel) kc_0 ?_
    refine tq_s_istore_n (kk := 2) (L9 := [.ref 51, .int a1, .int (0 : Int32)]) (by decide +kernel) (by decide) rfl ?_
    exact ac_X12_keepUndo_35 hB11 h
theorem ac_X12_keepUndo_11 {K : Nat × (Nat → Int32)} {x : Nat} {Q : tq_O → tq_S → Prop} {a1 : Int32} {z : tq_S} (h : wc_X12_keepUndo_11 Q a1 z) : tq_T K 0 x mm_X12_keepUndo 11 [.ref 51, .int a1, .null] [] z Q :=
  tq_lp_T (σ := Int32 × tq_S) (s := (a1, z)) (G := fun s => tq_T K 0 x mm_X12_keepUndo 11 [.ref 51, .int s.1, .null] [] s.2 Q) (fun B hB s h => ab_X12_keepUndo_11 (fun b1 z h => hB (b1, z) h) h) h
def wm_X12_keepUndo  (z : tq_S) (Q : tq_O → tq_S → Prop) : Prop := ((¬ (tq_fi z 3276) = (10 : Int32) → wc_X12_keepUndo_87 Q z) ∧ ((tq_fi z 3276) = (10 : Int32) → wc_X12_keepUndo_11 Q (0 : Int32) z))
theorem am_X12_keepUndo {K : Nat × (Nat → Int32)} {x : Nat} {z : tq_S} {Q : tq_O → tq_S → Prop}  (h : wm_X12_keepUndo z Q) : tq_M K 0 x mm_X12_keepUndo [.ref 51] z Q := by
  unfold wm_X12_keepUndo at h
  refine tq_enter (L := [.ref 51, .null, .null]) mf_X12_keepUndo.1 rfl rfl (Nat.le_of_ble_eq_true rfl) ?_
  refine tq_s_aload_n (kk := 0) (by decide +kernel) rfl ?_
  refine fg_12_139_51 rfl (by decide +kernel) ?_
  refine tq_k_bi (n := 10) (v := (10 : Int32)) (by decide +kernel) kb_10 ?_
  refine tq_icmp_ne (off := 81) (tgt := 87) (by decide +kernel) (by decide +kernel) (fun hc => ?_) (fun hc => ?_)
  · replace h := h.1 hc
    exact ac_X12_keepUndo_87 h
  · replace h := h.2 hc
    refine tq_k_ic (n := 0) (v := (0 : Int32)) (by decide +kernel) kc_0 ?_
    refine tq_s_istore_n (kk := 1) (L9 := [.ref 51, .int (0 : Int32), .null]) (by decide +kernel) (by decide) rfl ?_
    exact ac_X12_keepUndo_11 h
def wc_X12_draw_17 (Q : tq_O → tq_S → Prop) (a1 : Int64) (a3 : Int64) (s0 : Int32) (z : tq_S) : Prop := wm_X12_isThrown s0 (1 : Int32) z (tq_wi fun r102 z101 => ((r102 = 0 → wm_X12_keepUndo z101 (tq_wv fun z103 => (¬ a3 = 0) ∧ (¬ a3 = 0) ∧ wm_X12_make (((a1 - a1 / a3 * a3) + a3) - ((a1 - a1 / a3 * a3) + a3) / a3 * a3) z103 (tq_wv fun z104 => wm_X12_many z104 (tq_wi fun r106 z105 => Q (.inl (some (.int (r106 / (2 : Int32))))) z105)))) ∧ (¬ r102 = 0 → Q (.inl (some (.int (0 : Int32)))) z101)))
theorem ac_X12_draw_17 {K : Nat × (Nat → Int32)} {x : Nat} {Q : tq_O → tq_S → Prop} {a1 : Int64} {a3 : Int64} {s0 : Int32} {z : tq_S} (h : wc_X12_draw_17 Q a1 a3 s0 z) : tq_T K 43 x mm_X12_draw 17 [.ref 51, .long a1, .null, .long a3, .null] [.int s0, .ref 51] z Q := by
  unfold wc_X12_draw_17 at h
  refine tq_k_ic (n := 1) (v := (1 : Int32)) (by decide +kernel) kc_1 ?_
  refine tq_callV (as := [.int s0, .int (1 : Int32)]) (st := []) (d1 := 0) (x1 := 0) (x2 := x) (by decide +kernel) ln_12_152 mf_X12_isThrown rfl sh_51 rfl (by decide) np_X12_isThrown rfl (Nat.le_of_ble_eq_true rfl) (by decide) (Nat.zero_add _).symm (tq_M_mono (am_X12_isThrown h) ?_)
  refine tq_wi_e (fun r102 z101 h => ?_)
  refine tq_if_eq (off := 5) (tgt := 26) (by decide +kernel) (by decide +kernel) (fun hc => ?_) (fun hc => ?_)
  · replace h := h.1 hc
    refine tq_s_aload_n (kk := 0) (by decide +kernel) rfl ?_
    refine tq_callV (as := []) (st := []) (d1 := 0) (x1 := 0) (x2 := x) (by decide +kernel) ln_12_251 mf_X12_keepUndo rfl sh_51 rfl (by decide) np_X12_keepUndo rfl (Nat.le_of_ble_eq_true rfl) (by decide) (Nat.zero_add _).symm (tq_M_mono (am_X12_keepUndo h) ?_)
    refine tq_wv_e (fun z103 h => ?_)
    refine tq_s_aload_n (kk := 0) (by decide +kernel) rfl ?_
    refine tq_s_lload_n (kk := 1) (by decide +kernel) rfl ?_
    refine tq_s_lload_n (kk := 3) (by decide +kernel) rfl ?_
    refine tq_s_lrem (by decide +kernel) h.1 ?_
    replace h := h.2
    refine tq_s_lload_n (kk := 3) (by decide +kernel) rfl ?_
    refine tq_s_ladd (by decide +kernel) ?_
    refine tq_s_lload_n (kk := 3) (by decide +kernel) rfl ?_
    refine tq_s_lrem (by decide +kernel) h.1 ?_
    replace h := h.2
    refine tq_callV (as := [.long (((a1 - a1 / a3 * a3) + a3) - ((a1 - a1 / a3 * a3) + a3) / a3 * a3)]) (st := []) (d1 := 42) (x1 := 0) (x2 := x) (by decide +kernel) ln_12_254 mf_X12_make rfl sh_51 rfl (by decide) np_X12_make rfl (Nat.le_of_ble_eq_true rfl) (by decide) (Nat.zero_add _).symm (tq_M_mono (am_X12_make h) ?_)
    refine tq_wv_e (fun z104 h => ?_)
    refine tq_s_aload_n (kk := 0) (by decide +kernel) rfl ?_
    refine tq_callV (as := []) (st := []) (d1 := 0) (x1 := 0) (x2 := x) (by decide +kernel) ln_12_160 mf_X12_many rfl sh_51 rfl (by decide) np_X12_many rfl (Nat.le_of_ble_eq_true rfl) (by decide) (Nat.zero_add _).symm (tq_M_mono (am_X12_many h) ?_)
    refine tq_wi_e (fun r106 z105 h => ?_)
    refine tq_k_ic (n := 2) (v := (2 : Int32)) (by decide +kernel) kc_2 ?_
    refine tq_s_idiv (by decide +kernel) (by decide +kernel) ?_
    exact tq_ret_i (st := []) (by decide +kernel) rfl h
  · replace h := h.2 hc
    refine tq_k_ic (n := 0) (v := (0 : Int32)) (by decide +kernel) kc_0 ?_
    exact tq_ret_i (st := []) (by decide +kernel) rfl h
def wm_X12_draw (a1 : Int64) (z : tq_S) (Q : tq_O → tq_S → Prop) : Prop := wm_X12_countAll z (tq_wl fun r2 z1 => ((¬ r2 = (0 : Int64) → wc_X12_draw_17 Q a1 r2 (0 : Int32) z1) ∧ (r2 = (0 : Int64) → wc_X12_draw_17 Q a1 r2 (1 : Int32) z1)))
theorem am_X12_draw {K : Nat × (Nat → Int32)} {x : Nat} {z : tq_S} {Q : tq_O → tq_S → Prop} {a1 : Int64} (h : wm_X12_draw a1 z Q) : tq_M K 43 x mm_X12_draw [.ref 51, .long a1] z Q := by
  unfold wm_X12_draw at h
  refine tq_enter (L := [.ref 51, .long a1, .null, .null, .null]) mf_X12_draw.1 rfl rfl (Nat.le_of_ble_eq_true rfl) ?_
  refine tq_s_aload_n (kk := 0) (by decide +kernel) rfl ?_
  refine tq_callV (as := []) (st := []) (d1 := 42) (x1 := 0) (x2 := x) (by decide +kernel) ln_12_223 mf_X12_countAll rfl sh_51 rfl (by decide) np_X12_countAll rfl (Nat.le_of_ble_eq_true rfl) (by decide) (Nat.zero_add _).symm (tq_M_mono (am_X12_countAll h) ?_)
  refine tq_wl_e (fun r2 z1 h => ?_)
  refine tq_s_lstore_n (kk := 3) (L9 := [.ref 51, .long a1, .null, .long r2, .null]) (by decide +kernel) (by decide) rfl ?_
  refine tq_s_aload_n (kk := 0) (by decide +kernel) rfl ?_
  refine tq_s_lload_n (kk := 3) (by decide +kernel) rfl ?_
  refine tq_k_lc (n := 0) (v := (0 : Int64)) (by decide +kernel) (by decide +kernel) ?_
  refine tq_lcmp_ne (off := 7) (tgt := 16) (by decide +kernel) (by decide +kernel) (by decide +kernel) (fun hc => ?_) (fun hc => ?_)
  · replace h := h.1 hc
    refine tq_k_ic (n := 0) (v := (0 : Int32)) (by decide +kernel) kc_0 ?_
    exact ac_X12_draw_17 h
  · replace h := h.2 hc
    refine tq_k_ic (n := 1) (v := (1 : Int32)) (by decide +kernel) kc_1 ?_
    refine tq_s_goto (off := 4) (tgt := 17) (by decide +kernel) (by decide +kernel) ?_
    exact ac_X12_draw_17 h
def wc_X12_hasNone_13 (Q : tq_O → tq_S → Prop) (a1 : Int32) (s0 : Int32) (z : tq_S) : Prop := wm_X12_isThrown s0 a1 z (tq_wi fun r102 z101 => tq_nz r102 ∧ Q (.inl (some (.int r102))) z101)
theorem ac_X12_hasNone_13 {K : Nat × (Nat → Int32)} {x : Nat} {Q : tq_O → tq_S → Prop} {a1 : Int32} {s0 : Int32} {z : tq_S} (h : wc_X12_hasNone_13 Q a1 s0 z) : tq_T K 1 x mm_X12_hasNone 13 [.null, .int a1] [.int s0, .ref 51] z Q := by
  unfold wc_X12_hasNone_13 at h
  refine tq_s_iload_n (kk := 1) (by decide +kernel) rfl ?_
  refine tq_callV (as := [.int s0, .int a1]) (st := []) (d1 := 0) (x1 := 0) (x2 := x) (by decide +kernel) ln_12_152 mf_X12_isThrown rfl sh_51 rfl (by decide) np_X12_isThrown rfl (Nat.le_of_ble_eq_true rfl) (by decide) (Nat.zero_add _).symm (tq_M_mono (am_X12_isThrown h) ?_)
  refine tq_wi_e (fun r102 z101 h => ?_)
  exact tq_ret_z (st := []) (ty := .boolean) (by decide +kernel) (tq_nz_f h.1).1 rfl h.2
def wm_X12_hasNone (a1 : Int32) (z : tq_S) (Q : tq_O → tq_S → Prop) : Prop := ((¬ (tq_fi z 3272) = 0 → wc_X12_hasNone_13 Q a1 (0 : Int32) z) ∧ ((tq_fi z 3272) = 0 → wc_X12_hasNone_13 Q a1 (1 : Int32) z))
theorem am_X12_hasNone {K : Nat × (Nat → Int32)} {x : Nat} {z : tq_S} {Q : tq_O → tq_S → Prop} {a1 : Int32} (h : wm_X12_hasNone a1 z Q) : tq_M K 1 x mm_X12_hasNone [.ref 51, .int a1] z Q := by
  unfold wm_X12_hasNone at h
  refine tq_enter (L := [.ref 51, .int a1]) mf_X12_hasNone.1 rfl rfl (Nat.le_of_ble_eq_true rfl) ?_
  refine tq_s_aload_n (kk := 0) (by decide +kernel) rfl ?_
  refine tq_s_aload_n (kk := 0) (by decide +kernel) rfl ?_
  refine fg_12_132_51 rfl (by decide +kernel) ?_
  refine tq_if_ne (off := 7) (tgt := 12) (by decide +kernel) (by decide +kernel) (fun hc => ?_) (fun hc => ?_)
  · replace h := h.1 hc
    refine tq_k_ic (n := 0) (v := (0 : Int32)) (by decide +kernel) kc_0 ?_
    exact tq_to (tq_ld1 (tq_lk1 tq_l0)) (ac_X12_hasNone_13 h)
  · replace h := h.2 hc
    refine tq_k_ic (n := 1) (v := (1 : Int32)) (by decide +kernel) kc_1 ?_
    refine tq_s_goto (off := 4) (tgt := 13) (by decide +kernel) (by decide +kernel) ?_
    exact tq_to (tq_ld1 (tq_lk1 tq_l0)) (ac_X12_hasNone_13 h)
def wm_X12_next  (z : tq_S) (Q : tq_O → tq_S → Prop) : Prop := wm_X12_hasNone (1 : Int32) z (tq_wi fun r2 z1 => ((r2 = 0 → wm_X12_keepUndo z1 (tq_wv fun z3 => wm_X12_countAll z3 (tq_wl fun r5 z4 => wm_X12_numberOf z4 (tq_wl fun r7 z6 => (¬ r5 = 0) ∧ wm_X12_make ((r7 + (1 : Int64)) - (r7 + (1 : Int64)) / r5 * r5) z6 (tq_wv fun z8 => ((r5 ≤ (r7 + (1 : Int64)) → Q (.inl (some (.int (0 : Int32)))) z8) ∧ (¬ r5 ≤ (r7 + (1 : Int64)) → Q (.inl (some (.int (1 : Int32)))) z8))))))) ∧ (¬ r2 = 0 → Q (.inl (some (.int (0 : Int32)))) z1)))
theorem am_X12_next {K : Nat × (Nat → Int32)} {x : Nat} {z : tq_S} {Q : tq_O → tq_S → Prop}  (h : wm_X12_next z Q) : tq_M K 43 x mm_X12_next [.ref 51] z Q := by
  unfold wm_X12_next at h
  refine tq_enter (L := [.ref 51, .null, .null, .null, .null]) mf_X12_next.1 rfl rfl (Nat.le_of_ble_eq_true rfl) ?_
  refine tq_s_aload_n (kk := 0) (by decide +kernel) rfl ?_
  refine tq_k_ic (n := 1) (v := (1 : Int32)) (by decide +kernel) kc_1 ?_
  refine tq_callV (as := [.int (1 : Int32)]) (st := []) (d1 := 1) (x1 := 0) (x2 := x) (by decide +kernel) ln_12_257 mf_X12_hasNone rfl sh_51 rfl (by decide) np_X12_hasNone rfl (Nat.le_of_ble_eq_true rfl) (by decide) (Nat.zero_add _).symm (tq_M_mono (am_X12_hasNone h) ?_)
  refine tq_wi_e (fun r2 z1 h => ?_)
  refine tq_if_eq (off := 5) (tgt := 10) (by decide +kernel) (by decide +kernel) (fun hc => ?_) (fun hc => ?_)
  · replace h := h.1 hc
    refine tq_s_aload_n (kk := 0) (by decide +kernel) rfl ?_
    refine tq_callV (as := []) (st := []) (d1 := 0) (x1 := 0) (x2 := x) (by decide +kernel) ln_12_251 mf_X12_keepUndo rfl sh_51 rfl (by decide) np_X12_keepUndo rfl (Nat.le_of_ble_eq_true rfl) (by decide) (Nat.zero_add _).symm (tq_M_mono (am_X12_keepUndo h) ?_)
    refine tq_wv_e (fun z3 h => ?_)
    refine tq_s_aload_n (kk := 0) (by decide +kernel) rfl ?_
    refine tq_callV (as := []) (st := []) (d1 := 42) (x1 := 0) (x2 := x) (by decide +kernel) ln_12_223 mf_X12_countAll rfl sh_51 rfl (by decide) np_X12_countAll rfl (Nat.le_of_ble_eq_true rfl) (by decide) (Nat.zero_add _).symm (tq_M_mono (am_X12_countAll h) ?_)
    refine tq_wl_e (fun r5 z4 h => ?_)
    refine tq_s_lstore_n (kk := 1) (L9 := [.ref 51, .long r5, .null, .null, .null]) (by decide +kernel) (by decide) rfl ?_
    refine tq_s_aload_n (kk := 0) (by decide +kernel) rfl ?_
    refine tq_callV (as := []) (st := []) (d1 := 42) (x1 := 0) (x2 := x) (by decide +kernel) ln_12_260 mf_X12_numberOf rfl sh_51 rfl (by decide) np_X12_numberOf rfl (Nat.le_of_ble_eq_true rfl) (by decide) (Nat.zero_add _).symm (tq_M_mono (am_X12_numberOf h) ?_)
    refine tq_wl_e (fun r7 z6 h => ?_)
    refine tq_s_lstore_n (kk := 3) (L9 := [.ref 51, .long r5, .null, .long r7, .null]) (by decide +kernel) (by decide) rfl ?_
    refine tq_s_aload_n (kk := 0) (by decide +kernel) rfl ?_
    refine tq_s_lload_n (kk := 3) (by decide +kernel) rfl ?_
    refine tq_k_lc (n := 1) (v := (1 : Int64)) (by decide +kernel) (by decide +kernel) ?_
    refine tq_s_ladd (by decide +kernel) ?_
    refine tq_s_lload_n (kk := 1) (by decide +kernel) rfl ?_
    refine tq_s_lrem (by decide +kernel) h.1 ?_
    replace h := h.2
    refine tq_callV (as := [.long ((r7 + (1 : Int64)) - (r7 + (1 : Int64)) / r5 * r5)]) (st := []) (d1 := 42) (x1 := 0) (x2 := x) (by decide +kernel) ln_12_254 mf_X12_make rfl sh_51 rfl (by decide) np_X12_make rfl (Nat.le_of_ble_eq_true rfl) (by decide) (Nat.zero_add _).symm (tq_M_mono (am_X12_make h) ?_)
    refine tq_wv_e (fun z8 h => ?_)
    refine tq_s_lload_n (kk := 3) (by decide +kernel) rfl ?_
    refine tq_k_lc (n := 1) (v := (1 : Int64)) (by decide +kernel) (by decide +kernel) ?_
    refine tq_s_ladd (by decide +kernel) ?_
    refine tq_s_lload_n (kk := 1) (by decide +kernel) rfl ?_
    refine tq_lcmp_ge (off := 7) (tgt := 45) (by decide +kernel) (by decide +kernel) (by decide +kernel) (fun hc => ?_) (fun hc => ?_)
    · replace h := h.1 hc
      refine tq_k_ic (n := 0) (v := (0 : Int32)) (by decide +kernel) kc_0 ?_
      exact tq_ret_z (st := []) (ty := .boolean) (by decide +kernel) (by decide +kernel) rfl h
    · replace h := h.2 hc
      refine tq_k_ic (n := 1) (v := (1 : Int32)) (by decide +kernel) kc_1 ?_
      refine tq_s_goto (off := 4) (tgt := 46) (by decide +kernel) (by decide +kernel) ?_
      exact tq_ret_z (st := []) (ty := .boolean) (by decide +kernel) (by decide +kernel) rfl h
  · replace h := h.2 hc
    refine tq_k_ic (n := 0) (v := (0 : Int32)) (by decide +kernel) kc_0 ?_
    exact tq_ret_z (st := []) (ty := .boolean) (by decide +kernel) (by decide +kernel) rfl h
def wm_X12_previous  (z : tq_S) (Q : tq_O → tq_S → Prop) : Prop := wm_X12_hasNone (1 : Int32) z (tq_wi fun r2 z1 => ((r2 = 0 → wm_X12_keepUndo z1 (tq_wv fun z3 => wm_X12_countAll z3 (tq_wl fun r5 z4 => wm_X12_numberOf z4 (tq_wl fun r7 z6 => (¬ r5 = 0) ∧ wm_X12_make (((r7 + r5) - (1 : Int64)) - ((r7 + r5) - (1 : Int64)) / r5 * r5) z6 (tq_wv fun z8 => ((r7 ≤ (0 : Int64) → Q (.inl (some (.int (0 : Int32)))) z8) ∧ (¬ r7 ≤ (0 : Int64) → Q (.inl (some (.int (1 : Int32)))) z8))))))) ∧ (¬ r2 = 0 → Q (.inl (some (.int (0 : Int32)))) z1)))
theorem am_X12_previous {K : Nat × (Nat → Int32)} {x : Nat} {z : tq_S} {Q : tq_O → tq_S → Prop}  (h : wm_X12_previous z Q) : tq_M K 43 x mm_X12_previous [.ref 51] z Q := by
  unfold wm_X12_previous at h
  refine tq_enter (L := [.ref 51, .null, .null, .null, .null]) mf_X12_previous.1 rfl rfl (Nat.le_of_ble_eq_true rfl) ?_
  refine tq_s_aload_n (kk := 0) (by decide +kernel) rfl ?_
  refine tq_k_ic (n := 1) (v := (1 : Int32)) (by decide +kernel) kc_1 ?_
  refine tq_callV (as := [.int (1 : Int32)]) (st := []) (d1 := 1) (x1 := 0) (x2 := x) (by decide +kernel) ln_12_257 mf_X12_hasNone rfl sh_51 rfl (by decide) np_X12_hasNone rfl (Nat.le_of_ble_eq_true rfl) (by decide) (Nat.zero_add _).symm (tq_M_mono (am_X12_hasNone h) ?_)
  refine tq_wi_e (fun r2 z1 h => ?_)
  refine tq_if_eq (off := 5) (tgt := 10) (by decide +kernel) (by decide +kernel) (fun hc => ?_) (fun hc => ?_)
  · replace h := h.1 hc
    refine tq_s_aload_n (kk := 0) (by decide +kernel) rfl ?_
    refine tq_callV (as := []) (st := []) (d1 := 0) (x1 := 0) (x2 := x) (by decide +kernel) ln_12_251 mf_X12_keepUndo rfl sh_51 rfl (by decide) np_X12_keepUndo rfl (Nat.le_of_ble_eq_true rfl) (by decide) (Nat.zero_add _).symm (tq_M_mono (am_X12_keepUndo h) ?_)
    refine tq_wv_e (fun z3 h => ?_)
    refine tq_s_aload_n (kk := 0) (by decide +kernel) rfl ?_
    refine tq_callV (as := []) (st := []) (d1 := 42) (x1 := 0) (x2 := x) (by decide +kernel) ln_12_223 mf_X12_countAll rfl sh_51 rfl (by decide) np_X12_countAll rfl (Nat.le_of_ble_eq_true rfl) (by decide) (Nat.zero_add _).symm (tq_M_mono (am_X12_countAll h) ?_)
    refine tq_wl_e (fun r5 z4 h => ?_)
    refine tq_s_lstore_n (kk := 1) (L9 := [.ref 51, .long r5, .null, .null, .null]) (by decide +kernel) (by decide) rfl ?_
    refine tq_s_aload_n (kk := 0) (by decide +kernel) rfl ?_
    refine tq_callV (as := []) (st := []) (d1 := 42) (x1 := 0) (x2 := x) (by decide +kernel) ln_12_260 mf_X12_numberOf rfl sh_51 rfl (by decide) np_X12_numberOf rfl (Nat.le_of_ble_eq_true rfl) (by decide) (Nat.zero_add _).symm (tq_M_mono (am_X12_numberOf h) ?_)
    refine tq_wl_e (fun r7 z6 h => ?_)
    refine tq_s_lstore_n (kk := 3) (L9 := [.ref 51, .long r5, .null, .long r7, .null]) (by decide +kernel) (by decide) rfl ?_
    refine tq_s_aload_n (kk := 0) (by decide +kernel) rfl ?_
    refine tq_s_lload_n (kk := 3) (by decide +kernel) rfl ?_
    refine tq_s_lload_n (kk := 1) (by decide +kernel) rfl ?_
    refine tq_s_ladd (by decide +kernel) ?_
    refine tq_k_lc (n := 1) (v := (1 : Int64)) (by decide +kernel) (by decide +kernel) ?_
    refine tq_s_lsub (by decide +kernel) ?_
    refine tq_s_lload_n (kk := 1) (by decide +kernel) rfl ?_
    refine tq_s_lrem (by decide +kernel) h.1 ?_
    replace h := h.2
    refine tq_callV (as := [.long (((r7 + r5) - (1 : Int64)) - ((r7 + r5) - (1 : Int64)) / r5 * r5)]) (st := []) (d1 := 42) (x1 := 0) (x2 := x) (by decide +kernel) ln_12_254 mf_X12_make rfl sh_51 rfl (by decide) np_X12_make rfl (Nat.le_of_ble_eq_true rfl) (by decide) (Nat.zero_add _).symm (tq_M_mono (am_X12_make h) ?_)
    refine tq_wv_e (fun z8 h => ?_)
    refine tq_s_lload_n (kk := 3) (by decide +kernel) rfl ?_
    refine tq_k_lc (n := 0) (v := (0 : Int64)) (by decide +kernel) (by decide +kernel) ?_
    refine tq_lcmp_le (off := 7) (tgt := 45) (by decide +kernel) (by decide +kernel) (by decide +kernel) (fun hc => ?_) (fun hc => ?_)
    · replace h := h.1 hc
      refine tq_k_ic (n := 0) (v := (0 : Int32)) (by decide +kernel) kc_0 ?_
      exact tq_ret_z (st := []) (ty := .boolean) (by decide +kernel) (by decide +kernel) rfl h
    · replace h := h.2 hc
      refine tq_k_ic (n := 1) (v := (1 : Int32)) (by decide +kernel) kc_1 ?_
      refine tq_s_goto (off := 4) (tgt := 46) (by decide +kernel) (by decide +kernel) ?_
      exact tq_ret_z (st := []) (ty := .boolean) (by decide +kernel) (by decide +kernel) rfl h
  · replace h := h.2 hc
    refine tq_k_ic (n := 0) (v := (0 : Int32)) (by decide +kernel) kc_0 ?_
    exact tq_ret_z (st := []) (ty := .boolean) (by decide +kernel) (by decide +kernel) rfl h
def wm_X12_number  (z : tq_S) (Q : tq_O → tq_S → Prop) : Prop := wm_X12_hasNone (1 : Int32) z (tq_wi fun r2 z1 => ((r2 = 0 → wm_X12_numberOf z1 (tq_wl fun r4 z3 => wm_X12_put r4 z3 (tq_wi fun r6 z5 => Q (.inl (some (.int r6))) z5))) ∧ (¬ r2 = 0 → Q (.inl (some (.int (0 : Int32)))) z1)))
theorem am_X12_number {K : Nat × (Nat → Int32)} {x : Nat} {z : tq_S} {Q : tq_O → tq_S → Prop}  (h : wm_X12_number z Q) : tq_M K 43 x mm_X12_number [.ref 51] z Q := by
  unfold wm_X12_number at h
  refine tq_enter (L := [.ref 51]) mf_X12_number.1 rfl rfl (Nat.le_of_ble_eq_true rfl) ?_
  refine tq_s_aload_n (kk := 0) (by decide +kernel) rfl ?_
  refine tq_k_ic (n := 1) (v := (1 : Int32)) (by decide +kernel) kc_1 ?_
  refine tq_callV (as := [.int (1 : Int32)]) (st := []) (d1 := 1) (x1 := 0) (x2 := x) (by decide +kernel) ln_12_257 mf_X12_hasNone rfl sh_51 rfl (by decide) np_X12_hasNone rfl (Nat.le_of_ble_eq_true rfl) (by decide) (Nat.zero_add _).symm (tq_M_mono (am_X12_hasNone h) ?_)
  refine tq_wi_e (fun r2 z1 h => ?_)
  refine tq_if_eq (off := 7) (tgt := 12) (by decide +kernel) (by decide +kernel) (fun hc => ?_) (fun hc => ?_)
  · replace h := h.1 hc
    refine tq_s_aload_n (kk := 0) (by decide +kernel) rfl ?_
    refine tq_s_aload_n (kk := 0) (by decide +kernel) rfl ?_
    refine tq_callV (as := []) (st := [.ref 51]) (d1 := 42) (x1 := 0) (x2 := x) (by decide +kernel) ln_12_260 mf_X12_numberOf rfl sh_51 rfl (by decide) np_X12_numberOf rfl (Nat.le_of_ble_eq_true rfl) (by decide) (Nat.zero_add _).symm (tq_M_mono (am_X12_numberOf h) ?_)
    refine tq_wl_e (fun r4 z3 h => ?_)
    refine tq_callV (as := [.long r4]) (st := []) (d1 := 41) (x1 := 0) (x2 := x) (by decide +kernel) ln_12_226 mf_X12_put rfl sh_51 rfl (by decide) np_X12_put rfl (Nat.le_of_ble_eq_true rfl) (by decide) (Nat.zero_add _).symm (tq_M_mono (am_X12_put h) ?_)
    refine tq_wi_e (fun r6 z5 h => ?_)
    exact tq_ret_i (st := []) (by decide +kernel) rfl h
  · replace h := h.2 hc
    refine tq_k_ic (n := 0) (v := (0 : Int32)) (by decide +kernel) kc_0 ?_
    refine tq_s_goto (off := 11) (tgt := 20) (by decide +kernel) (by decide +kernel) ?_
    exact tq_ret_i (st := []) (by decide +kernel) rfl h
def wc_X12_other_15 (Q : tq_O → tq_S → Prop) (a1 : Int32) (a2 : Int32) (s0 : Int32) (z : tq_S) : Prop := wm_X12_isThrown s0 (1 : Int32) z (tq_wi fun r102 z101 => ((¬ r102 = 0 → Q (.inl (some (.int (45 : Int32)))) z101) ∧ (r102 = 0 → wm_X12_hasNone (2 : Int32) z101 (tq_wi fun r104 z103 => ((r104 = 0 → vp_in (((8 : Int32) * a2) + a1) 64 ∧ tq_nf 2 (tq_ai z103 56 (Int32.toNatClampNeg (((8 : Int32) * a2) + a1))) ∧ Q (.inl (some (.int (tq_ai z103 56 (Int32.toNatClampNeg (((8 : Int32) * a2) + a1)))))) z103) ∧ (¬ r104 = 0 → Q (.inl (some (.int (45 : Int32)))) z103))))))
theorem ac_X12_other_15 {K : Nat × (Nat → Int32)} {x : Nat} {Q : tq_O → tq_S → Prop} {a1 : Int32} {a2 : Int32} {s0 : Int32} {z : tq_S} (h : wc_X12_other_15 Q a1 a2 s0 z) : tq_T K 2 x mm_X12_other 15 [.ref 51, .int a1, .int a2] [.int s0, .ref 51] z Q := by
  unfold wc_X12_other_15 at h
  refine tq_k_ic (n := 1) (v := (1 : Int32)) (by decide +kernel) kc_1 ?_
  refine tq_callV (as := [.int s0, .int (1 : Int32)]) (st := []) (d1 := 0) (x1 := 0) (x2 := x) (by decide +kernel) ln_12_152 mf_X12_isThrown rfl sh_51 rfl (by decide) np_X12_isThrown rfl (Nat.le_of_ble_eq_true rfl) (by decide) (Nat.zero_add _).symm (tq_M_mono (am_X12_isThrown h) ?_)
  refine tq_wi_e (fun r102 z101 h => ?_)
  refine tq_if_ne (off := 11) (tgt := 30) (by decide +kernel) (by decide +kernel) (fun hc => ?_) (fun hc => ?_)
  · replace h := h.1 hc
    refine tq_k_bi (n := 45) (v := (45 : Int32)) (by decide +kernel) kb_45 ?_
    refine tq_s_goto (off := 14) (tgt := 46) (by decide +kernel) (by decide +kernel) ?_
    exact tq_ret_z (st := []) (ty := .char) (by decide +kernel) (by decide +kernel) rfl h
  · replace h := h.2 hc
    refine tq_s_aload_n (kk := 0) (by decide +kernel) rfl ?_
    refine tq_k_ic (n := 2) (v := (2 : Int32)) (by decide +kernel) kc_2 ?_
    refine tq_callV (as := [.int (2 : Int32)]) (st := []) (d1 := 1) (x1 := 0) (x2 := x) (by decide +kernel) ln_12_257 mf_X12_hasNone rfl sh_51 rfl (by decide) np_X12_hasNone rfl (Nat.le_of_ble_eq_true rfl) (by decide) (Nat.zero_add _).symm (tq_M_mono (am_X12_hasNone h) ?_)
    refine tq_wi_e (fun r104 z103 h => ?_)
    refine tq_if_eq (off := 8) (tgt := 35) (by decide +kernel) (by decide +kernel) (fun hc => ?_) (fun hc => ?_)
    · replace h := h.1 hc
      refine tq_s_aload_n (kk := 0) (by decide +kernel) rfl ?_
      refine fg_12_30_51 rfl (by decide +kernel) ?_
      refine tq_k_bi (n := 8) (v := (8 : Int32)) (by decide +kernel) kb_8 ?_
      refine tq_s_iload_n (kk := 2) (by decide +kernel) rfl ?_
      refine tq_s_imul (by decide +kernel) ?_
      refine tq_s_iload_n (kk := 1) (by decide +kernel) rfl ?_
      refine tq_s_iadd (by decide +kernel) ?_
      refine tq_s_cald (by decide +kernel) sh_56 h.1 ?_
      replace h := h.2
      exact tq_ret_z (st := []) (ty := .char) (by decide +kernel) h.1.1 rfl h.2
    · replace h := h.2 hc
      refine tq_k_bi (n := 45) (v := (45 : Int32)) (by decide +kernel) kb_45 ?_
      refine tq_s_goto (off := 14) (tgt := 46) (by decide +kernel) (by decide +kernel) ?_
      exact tq_ret_z (st := []) (ty := .char) (by decide +kernel) (by decide +kernel) rfl h
def wm_X12_other (a1 : Int32) (a2 : Int32) (z : tq_S) (Q : tq_O → tq_S → Prop) : Prop := wm_X12_isCell a1 a2 z (tq_wi fun r2 z1 => ((¬ r2 = 0 → wc_X12_other_15 Q a1 a2 (0 : Int32) z1) ∧ (r2 = 0 → wc_X12_other_15 Q a1 a2 (1 : Int32) z1)))
theorem am_X12_other {K : Nat × (Nat → Int32)} {x : Nat} {z : tq_S} {Q : tq_O → tq_S → Prop} {a1 : Int32} {a2 : Int32} (h : wm_X12_other a1 a2 z Q) : tq_M K 2 x mm_X12_other [.ref 51, .int a1, .int a2] z Q := by
  unfold wm_X12_other at h
  refine tq_enter (L := [.ref 51, .int a1, .int a2]) mf_X12_other.1 rfl rfl (Nat.le_of_ble_eq_true rfl) ?_
  refine tq_s_aload_n (kk := 0) (by decide +kernel) rfl ?_
  refine tq_s_aload_n (kk := 0) (by decide +kernel) rfl ?_
  refine tq_s_iload_n (kk := 1) (by decide +kernel) rfl ?_
  refine tq_s_iload_n (kk := 2) (by decide +kernel) rfl ?_
  refine tq_callV (as := [.int a1, .int a2]) (st := [.ref 51]) (d1 := 1) (x1 := 0) (x2 := x) (by decide +kernel) ln_12_164 mf_X12_isCell rfl sh_51 rfl (by decide) np_X12_isCell rfl (Nat.le_of_ble_eq_true rfl) (by decide) (Nat.zero_add _).symm (tq_M_mono (am_X12_isCell h) ?_)
  refine tq_wi_e (fun r2 z1 h => ?_)
  refine tq_if_ne (off := 7) (tgt := 14) (by decide +kernel) (by decide +kernel) (fun hc => ?_) (fun hc => ?_)
  · replace h := h.1 hc
    refine tq_k_ic (n := 0) (v := (0 : Int32)) (by decide +kernel) kc_0 ?_
    exact ac_X12_other_15 h
  · replace h := h.2 hc
    refine tq_k_ic (n := 1) (v := (1 : Int32)) (by decide +kernel) kc_1 ?_
    refine tq_s_goto (off := 4) (tgt := 15) (by decide +kernel) (by decide +kernel) ?_
    exact ac_X12_other_15 h
def wc_X12_isFlip_164 (Q : tq_O → tq_S → Prop) (a4 : Int32) (a5 : Int32) (s0 : Int32) (z : tq_S) : Prop := ((a4 = 0 → Q (.inl (some (.int (0 : Int32)))) z) ∧ (¬ a4 = 0 → ((¬ a5 = 0 → Q (.inl (some (.int (1 : Int32)))) z) ∧ (a5 = 0 → ((s0 = 0 → Q (.inl (some (.int (0 : Int32)))) z) ∧ (¬ s0 = 0 → Q (.inl (some (.int (1 : Int32)))) z))))))
theorem ac_X12_isFlip_164 {K : Nat × (Nat → Int32)} {x : Nat} {Q : tq_O → tq_S → Prop} {a4 : Int32} {a5 : Int32} {s0 : Int32} {z : tq_S} (h : wc_X12_isFlip_164 Q a4 a5 s0 z) : tq_T K 2 x mm_X12_isFlip 164 [.null, .null, .null, .null, .int a4, .int a5, .null] [.int s0] z Q := by
  unfold wc_X12_isFlip_164 at h
  refine tq_s_istore (i := 6) (L9 := [.null, .null, .null, .null, .int a4, .int a5, .int s0]) (by decide +kernel) (by decide) rfl ?_
  refine tq_s_iload (i := 4) (by decide +kernel) rfl ?_
  refine tq_if_eq (off := 17) (tgt := 185) (by decide +kernel) (by decide +kernel) (fun hc => ?_) (fun hc => ?_)
  · replace h := h.1 hc
    refine tq_k_ic (n := 0) (v := (0 : Int32)) (by decide +kernel) kc_0 ?_
    exact tq_ret_z (st := []) (ty := .boolean) (by decide +kernel) (by decide +kernel) rfl h
  · replace h := h.2 hc
    refine tq_s_iload (i := 5) (by decide +kernel) rfl ?_
    refine tq_if_ne (off := 8) (tgt := 181) (by decide +kernel) (by decide +kernel) (fun hc => ?_) (fun hc => ?_)
    · replace h := h.1 hc
      refine tq_k_ic (n := 1) (v := (1 : Int32)) (by decide +kernel) kc_1 ?_
      refine tq_s_goto (off := 4) (tgt := 186) (by decide +kernel) (by decide +kernel) ?_
      exact tq_ret_z (st := []) (ty := .boolean) (by decide +kernel) (by decide +kernel) rfl h
    · replace h := h.2 hc
      refine tq_s_iload (i := 6) (by decide +kernel) rfl ?_
      refine tq_if_eq (off := 7) (tgt := 185) (by decide +kernel) (by decide +kernel) (fun hc => ?_) (fun hc => ?_)
      · replace h := h.1 hc
        refine tq_k_ic (n := 0) (v := (0 : Int32)) (by decide +kernel) kc_0 ?_
        exact tq_ret_z (st := []) (ty := .boolean) (by decide +kernel) (by decide +kernel) rfl h
      · replace h := h.2 hc
        refine tq_k_ic (n := 1) (v := (1 : Int32)) (by decide +kernel) kc_1 ?_
        refine tq_s_goto (off := 4) (tgt := 186) (by decide +kernel) (by decide +kernel) ?_
        exact tq_ret_z (st := []) (ty := .boolean) (by decide +kernel) (by decide +kernel) rfl h
def wc_X12_isFlip_163 (Q : tq_O → tq_S → Prop) (a4 : Int32) (a5 : Int32) (z : tq_S) : Prop := wc_X12_isFlip_164 Q a4 a5 (0 : Int32) z
theorem ac_X12_isFlip_163 {K : Nat × (Nat → Int32)} {x : Nat} {Q : tq_O → tq_S → Prop} {a4 : Int32} {a5 : Int32} {z : tq_S} (h : wc_X12_isFlip_163 Q a4 a5 z) : tq_T K 2 x mm_X12_isFlip 163 [.null, .null, .null, .null, .int a4, .int a5, .null] [] z Q := by
  unfold wc_X12_isFlip_163 at h
  refine tq_k_ic (n := 0) (v := (0 : Int32)) (by decide +kernel) kc_0 ?_
  exact ac_X12_isFlip_164 h
def wc_X12_isFlip_125 (Q : tq_O → tq_S → Prop) (a1 : Int32) (a2 : Int32) (a3 : Int32) (a4 : Int32) (s0 : Int32) (z : tq_S) : Prop := vp_in (((8 : Int32) * a2) + a1) 64 ∧ ((¬ (tq_ai z 56 (Int32.toNatClampNeg (((8 : Int32) * a2) + a1))) = (115 : Int32) → wc_X12_isFlip_163 Q a4 s0 z) ∧ ((tq_ai z 56 (Int32.toNatClampNeg (((8 : Int32) * a2) + a1))) = (115 : Int32) → vp_in (((8 : Int32) * a2) + a3) 64 ∧ ((¬ (tq_ai z 56 (Int32.toNatClampNeg (((8 : Int32) * a2) + a3))) = (115 : Int32) → wc_X12_isFlip_163 Q a4 s0 z) ∧ ((tq_ai z 56 (Int32.toNatClampNeg (((8 : Int32) * a2) + a3))) = (115 : Int32) → wc_X12_isFlip_164 Q a4 s0 (1 : Int32) z))))
theorem ac_X12_isFlip_125 {K : Nat × (Nat → Int32)} {x : Nat} {Q : tq_O → tq_S → Prop} {a1 : Int32} {a2 : Int32} {a3 : Int32} {a4 : Int32} {s0 : Int32} {z : tq_S} (h : wc_X12_isFlip_125 Q a1 a2 a3 a4 s0 z) : tq_T K 2 x mm_X12_isFlip 125 [.ref 51, .int a1, .int a2, .int a3, .int a4, .null, .null] [.int s0] z Q := by
  unfold wc_X12_isFlip_125 at h
  refine tq_s_istore (i := 5) (L9 := [.ref 51, .int a1, .int a2, .int a3, .int a4, .int s0, .null]) (by decide +kernel) (by decide) rfl ?_
  refine tq_s_aload_n (kk := 0) (by decide +kernel) rfl ?_
  refine fg_12_30_51 rfl (by decide +kernel) ?_
  refine tq_k_bi (n := 8) (v := (8 : Int32)) (by decide +kernel) kb_8 ?_
  refine tq_s_iload_n (kk := 2) (by decide +kernel) rfl ?_
  refine tq_s_imul (by decide +kernel) ?_
  refine tq_s_iload_n (kk := 1) (by decide +kernel) rfl ?_
  refine tq_s_iadd (by decide +kernel) ?_
  refine tq_s_cald (by decide +kernel) sh_56 h.1 ?_
  replace h := h.2
  refine tq_k_bi (n := 115) (v := (115 : Int32)) (by decide +kernel) kb_115 ?_
  refine tq_icmp_ne (off := 23) (tgt := 163) (by decide +kernel) (by decide +kernel) (fun hc => ?_) (fun hc => ?_)
  · replace h := h.1 hc
    exact tq_to (tq_ld1 (tq_ld1 (tq_ld1 (tq_ld1 (tq_lk1 (tq_lk1 (tq_lk1 tq_l0))))))) (ac_X12_isFlip_163 h)
  · replace h := h.2 hc
    refine tq_s_aload_n (kk := 0) (by decide +kernel) rfl ?_
    refine fg_12_30_51 rfl (by decide +kernel) ?_
    refine tq_k_bi (n := 8) (v := (8 : Int32)) (by decide +kernel) kb_8 ?_
    refine tq_s_iload_n (kk := 2) (by decide +kernel) rfl ?_
    refine tq_s_imul (by decide +kernel) ?_
    refine tq_s_iload_n (kk := 3) (by decide +kernel) rfl ?_
    refine tq_s_iadd (by decide +kernel) ?_
    refine tq_s_cald (by decide +kernel) sh_56 h.1 ?_
    replace h := h.2
    refine tq_k_bi (n := 115) (v := (115 : Int32)) (by decide +kernel) kb_115 ?_
    refine tq_icmp_ne (off := 7) (tgt := 163) (by decide +kernel) (by decide +kernel) (fun hc => ?_) (fun hc => ?_)
    · replace h := h.1 hc
      exact tq_to (tq_ld1 (tq_ld1 (tq_ld1 (tq_ld1 (tq_lk1 (tq_lk1 (tq_lk1 tq_l0))))))) (ac_X12_isFlip_163 h)
    · replace h := h.2 hc
      refine tq_k_ic (n := 1) (v := (1 : Int32)) (by decide +kernel) kc_1 ?_
      refine tq_s_goto (off := 4) (tgt := 164) (by decide +kernel) (by decide +kernel) ?_
      exact tq_to (tq_ld1 (tq_ld1 (tq_ld1 (tq_ld1 (tq_lk1 (tq_lk1 (tq_lk1 tq_l0))))))) (ac_X12_isFlip_164 h)
def wc_X12_isFlip_124 (Q : tq_O → tq_S → Prop) (a1 : Int32) (a2 : Int32) (a3 : Int32) (a4 : Int32) (z : tq_S) : Prop := wc_X12_isFlip_125 Q a1 a2 a3 a4 (0 : Int32) z
theorem ac_X12_isFlip_124 {K : Nat × (Nat → Int32)} {x : Nat} {Q : tq_O → tq_S → Prop} {a1 : Int32} {a2 : Int32} {a3 : Int32} {a4 : Int32} {z : tq_S} (h : wc_X12_isFlip_124 Q a1 a2 a3 a4 z) : tq_T K 2 x mm_X12_isFlip 124 [.ref 51, .int a1, .int a2, .int a3, .int a4, .null, .null] [] z Q := by
  unfold wc_X12_isFlip_124 at h
  refine tq_k_ic (n := 0) (v := (0 : Int32)) (by decide +kernel) kc_0 ?_
  exact ac_X12_isFlip_125 h
def wc_X12_isFlip_83 (Q : tq_O → tq_S → Prop) (a1 : Int32) (a2 : Int32) (a3 : Int32) (s0 : Int32) (z : tq_S) : Prop := vp_in (((8 : Int32) * a2) + a1) 64 ∧ ((¬ (tq_ai z 56 (Int32.toNatClampNeg (((8 : Int32) * a2) + a1))) = (101 : Int32) → wc_X12_isFlip_124 Q a1 a2 a3 s0 z) ∧ ((tq_ai z 56 (Int32.toNatClampNeg (((8 : Int32) * a2) + a1))) = (101 : Int32) → vp_in ((((8 : Int32) * a2) + (8 : Int32)) + a1) 64 ∧ ((¬ (tq_ai z 56 (Int32.toNatClampNeg ((((8 : Int32) * a2) + (8 : Int32)) + a1))) = (101 : Int32) → wc_X12_isFlip_124 Q a1 a2 a3 s0 z) ∧ ((tq_ai z 56 (Int32.toNatClampNeg ((((8 : Int32) * a2) + (8 : Int32)) + a1))) = (101 : Int32) → wc_X12_isFlip_125 Q a1 a2 a3 s0 (1 : Int32) z))))
theorem ac_X12_isFlip_83 {K : Nat × (Nat → Int32)} {x : Nat} {Q : tq_O → tq_S → Prop} {a1 : Int32} {a2 : Int32} {a3 : Int32} {s0 : Int32} {z : tq_S} (h : wc_X12_isFlip_83 Q a1 a2 a3 s0 z) : tq_T K 2 x mm_X12_isFlip 83 [.ref 51, .int a1, .int a2, .int a3, .null, .null, .null] [.int s0] z Q := by
  unfold wc_X12_isFlip_83 at h
  refine tq_s_istore (i := 4) (L9 := [.ref 51, .int a1, .int a2, .int a3, .int s0, .null, .null]) (by decide +kernel) (by decide) rfl ?_
  refine tq_s_aload_n (kk := 0) (by decide +kernel) rfl ?_
  refine fg_12_30_51 rfl (by decide +kernel) ?_
  refine tq_k_bi (n := 8) (v := (8 : Int32)) (by decide +kernel) kb_8 ?_
  refine tq_s_iload_n (kk := 2) (by decide +kernel) rfl ?_
  refine tq_s_imul (by decide +kernel) ?_
  refine tq_s_iload_n (kk := 1) (by decide +kernel) rfl ?_
  refine tq_s_iadd (by decide +kernel) ?_
  refine tq_s_cald (by decide +kernel) sh_56 h.1 ?_
  replace h := h.2
  refine tq_k_bi (n := 101) (v := (101 : Int32)) (by decide +kernel) kb_101 ?_
  refine tq_icmp_ne (off := 26) (tgt := 124) (by decide +kernel) (by decide +kernel) (fun hc => ?_) (fun hc => ?_)
  · replace h := h.1 hc
    exact ac_X12_isFlip_124 h
  · replace h := h.2 hc
    refine tq_s_aload_n (kk := 0) (by decide +kernel) rfl ?_
    refine fg_12_30_51 rfl (by decide +kernel) ?_
    refine tq_k_bi (n := 8) (v := (8 : Int32)) (by decide +kernel) kb_8 ?_
    refine tq_s_iload_n (kk := 2) (by decide +kernel) rfl ?_
    refine tq_s_imul (by decide +kernel) ?_
    refine tq_k_bi (n := 8) (v := (8 : Int32)) (by decide +kernel) kb_8 ?_
    refine tq_s_iadd (by decide +kernel) ?_
    refine tq_s_iload_n (kk := 1) (by decide +kernel) rfl ?_
    refine tq_s_iadd (by decide +kernel) ?_
    refine tq_s_cald (by decide +kernel) sh_56 h.1 ?_
    replace h := h.2
    refine tq_k_bi (n := 101) (v := (101 : Int32)) (by decide +kernel) kb_101 ?_
    refine tq_icmp_ne (off := 7) (tgt := 124) (by decide +kernel) (by decide +kernel) (fun hc => ?_) (fun hc => ?_)
    · replace h := h.1 hc
      exact ac_X12_isFlip_124 h
    · replace h := h.2 hc
      refine tq_k_ic (n := 1) (v := (1 : Int32)) (by decide +kernel) kc_1 ?_
      refine tq_s_goto (off := 4) (tgt := 125) (by decide +kernel) (by decide +kernel) ?_
      exact ac_X12_isFlip_125 h
def wc_X12_isFlip_82 (Q : tq_O → tq_S → Prop) (a1 : Int32) (a2 : Int32) (a3 : Int32) (z : tq_S) : Prop := wc_X12_isFlip_83 Q a1 a2 a3 (0 : Int32) z
theorem ac_X12_isFlip_82 {K : Nat × (Nat → Int32)} {x : Nat} {Q : tq_O → tq_S → Prop} {a1 : Int32} {a2 : Int32} {a3 : Int32} {z : tq_S} (h : wc_X12_isFlip_82 Q a1 a2 a3 z) : tq_T K 2 x mm_X12_isFlip 82 [.ref 51, .int a1, .int a2, .int a3, .null, .null, .null] [] z Q := by
  unfold wc_X12_isFlip_82 at h
  refine tq_k_ic (n := 0) (v := (0 : Int32)) (by decide +kernel) kc_0 ?_
  exact ac_X12_isFlip_83 h
def wc_X12_isFlip_29 (Q : tq_O → tq_S → Prop) (a1 : Int32) (a2 : Int32) (z : tq_S) : Prop := (¬ (tq_fi z 3265) = 0) ∧ ∀ v101 : Int32, v101 = ((a1 + (1 : Int32)) - (a1 + (1 : Int32)) / (tq_fi z 3265) * (tq_fi z 3265)) → wm_X12_isCell a1 a2 z (tq_wi fun r103 z102 => ((r103 = 0 → wc_X12_isFlip_82 Q a1 a2 v101 z102) ∧ (¬ r103 = 0 → wm_X12_isCell v101 a2 z102 (tq_wi fun r105 z104 => ((r105 = 0 → wc_X12_isFlip_82 Q a1 a2 v101 z104) ∧ (¬ r105 = 0 → wm_X12_isCell a1 (a2 + (1 : Int32)) z104 (tq_wi fun r107 z106 => ((r107 = 0 → wc_X12_isFlip_82 Q a1 a2 v101 z106) ∧ (¬ r107 = 0 → wm_X12_isCell v101 (a2 + (1 : Int32)) z106 (tq_wi fun r109 z108 => ((r109 = 0 → wc_X12_isFlip_82 Q a1 a2 v101 z108) ∧ (¬ r109 = 0 → wc_X12_isFlip_83 Q a1 a2 v101 (1 : Int32) z108))))))))))))
theorem ac_X12_isFlip_29 {K : Nat × (Nat → Int32)} {x : Nat} {Q : tq_O → tq_S → Prop} {a1 : Int32} {a2 : Int32} {z : tq_S} (h : wc_X12_isFlip_29 Q a1 a2 z) : tq_T K 2 x mm_X12_isFlip 29 [.ref 51, .int a1, .int a2, .null, .null, .null, .null] [] z Q := by
  unfold wc_X12_isFlip_29 at h
  refine tq_s_iload_n (kk := 1) (by decide +kernel) rfl ?_
  refine tq_k_ic (n := 1) (v := (1 : Int32)) (by decide +kernel) kc_1 ?_
  refine tq_s_iadd (by decide +kernel) ?_
  refine tq_s_aload_n (kk := 0) (by decide +kernel) rfl ?_
  refine fg_12_7_51 rfl (by decide +kernel) ?_
  refine tq_s_irem (by decide +kernel) h.1 ?_
  replace h := h.2
  refine tq_g_istore_n (kk := 3) (fun v101 => [.ref 51, .int a1, .int a2, .int v101, .null, .null, .null]) (by decide +kernel) (by decide) (fun _ => rfl) (fun v101 ev101 => ?_)
  replace h := h v101 ev101
  refine tq_s_aload_n (kk := 0) (by decide +kernel) rfl ?_
  refine tq_s_iload_n (kk := 1) (by decide +kernel) rfl ?_
  refine tq_s_iload_n (kk := 2) (by decide +kernel) rfl ?_
  refine tq_callV (as := [.int a1, .int a2]) (st := []) (d1 := 1) (x1 := 0) (x2 := x) (by decide +kernel) ln_12_164 mf_X12_isCell rfl sh_51 rfl (by decide) np_X12_isCell rfl (Nat.le_of_ble_eq_true rfl) (by decide) (Nat.zero_add _).symm (tq_M_mono (am_X12_isCell h) ?_)
  refine tq_wi_e (fun r103 z102 h => ?_)
  refine tq_if_eq (off := 38) (tgt := 82) (by decide +kernel) (by decide +kernel) (fun hc => ?_) (fun hc => ?_)
  · replace h := h.1 hc
    exact ac_X12_isFlip_82 h
  · replace h := h.2 hc
    refine tq_s_aload_n (kk := 0) (by decide +kernel) rfl ?_
    refine tq_s_iload_n (kk := 3) (by decide +kernel) rfl ?_
    refine tq_s_iload_n (kk := 2) (by decide +kernel) rfl ?_
    refine tq_callV (as := [.int v101, .int a2]) (st := []) (d1 := 1) (x1 := 0) (x2 := x) (by decide +kernel) ln_12_164 mf_X12_isCell rfl sh_51 rfl (by decide) np_X12_isCell rfl (Nat.le_of_ble_eq_true rfl) (by decide) (Nat.zero_add _).symm (tq_M_mono (am_X12_isCell h) ?_)
    refine tq_wi_e (fun r105 z104 h => ?_)
    refine tq_if_eq (off := 29) (tgt := 82) (by decide +kernel) (by decide +kernel) (fun hc => ?_) (fun hc => ?_)
    · replace h := h.1 hc
      exact ac_X12_isFlip_82 h
    · replace h := h.2 hc
      refine tq_s_aload_n (kk := 0) (by decide +kernel) rfl ?_
      refine tq_s_iload_n (kk := 1) (by decide +kernel) rfl ?_
      refine tq_s_iload_n (kk := 2) (by decide +kernel) rfl ?_
      refine tq_k_ic (n := 1) (v := (1 : Int32)) (by decide +kernel) kc_1 ?_
      refine tq_s_iadd (by decide +kernel) ?_
      refine tq_callV (as := [.int a1, .int (a2 + (1 : Int32))]) (st := []) (d1 := 1) (x1 := 0) (x2 := x) (by decide +kernel) ln_12_164 mf_X12_isCell rfl sh_51 rfl (by decide) np_X12_isCell rfl (Nat.le_of_ble_eq_true rfl) (by decide) (Nat.zero_add _).symm (tq_M_mono (am_X12_isCell h) ?_)
      refine tq_wi_e (fun r107 z106 h => ?_)
      refine tq_if_eq (off := 18) (tgt := 82) (by decide +kernel) (by decide +kernel) (fun hc => ?_) (fun hc => ?_)
      · replace h := h.1 hc
        exact ac_X12_isFlip_82 h
      · replace h := h.2 hc
        refine tq_s_aload_n (kk := 0) (by decide +kernel) rfl ?_
        refine tq_s_iload_n (kk := 3) (by decide +kernel) rfl ?_
        refine tq_s_iload_n (kk := 2) (by decide +kernel) rfl ?_
        refine tq_k_ic (n := 1) (v := (1 : Int32)) (by decide +kernel) kc_1 ?_
        refine tq_s_iadd (by decide +kernel) ?_
        refine tq_callV (as := [.int v101, .int (a2 + (1 : Int32))]) (st := []) (d1 := 1) (x1 := 0) (x2 := x) (by decide +kernel) ln_12_164 mf_X12_isCell rfl sh_51 rfl (by decide) np_X12_isCell rfl (Nat.le_of_ble_eq_true rfl) (by decide) (Nat.zero_add _).symm (tq_M_mono (am_X12_isCell h) ?_)
        refine tq_wi_e (fun r109 z108 h => ?_)
        refine tq_if_eq (off := 7) (tgt := 82) (by decide +kernel) (by decide +kernel) (fun hc => ?_) (fun hc => ?_)
        · replace h := h.1 hc
          exact ac_X12_isFlip_82 h
        · replace h := h.2 hc
          refine tq_k_ic (n := 1) (v := (1 : Int32)) (by decide +kernel) kc_1 ?_
          refine tq_s_goto (off := 4) (tgt := 83) (by decide +kernel) (by decide +kernel) ?_
          exact ac_X12_isFlip_83 h
def wm_X12_isFlip (a1 : Int32) (a2 : Int32) (z : tq_S) (Q : tq_O → tq_S → Prop) : Prop := (((tq_fi z 3266) ≤ (a2 + (1 : Int32)) → Q (.inl (some (.int (0 : Int32)))) z) ∧ (¬ (tq_fi z 3266) ≤ (a2 + (1 : Int32)) → ((¬ (tq_fi z 3267) = 0 → wc_X12_isFlip_29 Q a1 a2 z) ∧ ((tq_fi z 3267) = 0 → (((a1 + (1 : Int32)) < (tq_fi z 3265) → wc_X12_isFlip_29 Q a1 a2 z) ∧ (¬ (a1 + (1 : Int32)) < (tq_fi z 3265) → Q (.inl (some (.int (0 : Int32)))) z))))))
theorem am_X12_isFlip {K : Nat × (Nat → Int32)} {x : Nat} {z : tq_S} {Q : tq_O → tq_S → Prop} {a1 : Int32} {a2 : Int32} (h : wm_X12_isFlip a1 a2 z Q) : tq_M K 2 x mm_X12_isFlip [.ref 51, .int a1, .int a2] z Q := by
  unfold wm_X12_isFlip at h
  refine tq_enter (L := [.ref 51, .int a1, .int a2, .null, .null, .null, .null]) mf_X12_isFlip.1 rfl rfl (Nat.le_of_ble_eq_true rfl) ?_
  refine tq_s_iload_n (kk := 2) (by decide +kernel) rfl ?_
  refine tq_k_ic (n := 1) (v := (1 : Int32)) (by decide +kernel) kc_1 ?_
  refine tq_s_iadd (by decide +kernel) ?_
  refine tq_s_aload_n (kk := 0) (by decide +kernel) rfl ?_
  refine fg_12_13_51 rfl (by decide +kernel) ?_
  refine tq_icmp_ge (off := 20) (tgt := 27) (by decide +kernel) (by decide +kernel) (fun hc => ?_) (fun hc => ?_)
  · replace h := h.1 hc
    refine tq_k_ic (n := 0) (v := (0 : Int32)) (by decide +kernel) kc_0 ?_
    exact tq_ret_z (st := []) (ty := .boolean) (by decide +kernel) (by decide +kernel) rfl h
  · replace h := h.2 hc
    refine tq_s_aload_n (kk := 0) (by decide +kernel) rfl ?_
    refine fg_12_142_51 rfl (by decide +kernel) ?_
    refine tq_if_ne (off := 15) (tgt := 29) (by decide +kernel) (by decide +kernel) (fun hc => ?_) (fun hc => ?_)
    · replace h := h.1 hc
      exact ac_X12_isFlip_29 h
    · replace h := h.2 hc
      refine tq_s_iload_n (kk := 1) (by decide +kernel) rfl ?_
      refine tq_k_ic (n := 1) (v := (1 : Int32)) (by decide +kernel) kc_1 ?_
      refine tq_s_iadd (by decide +kernel) ?_
      refine tq_s_aload_n (kk := 0) (by decide +kernel) rfl ?_
      refine fg_12_7_51 rfl (by decide +kernel) ?_
      refine tq_icmp_lt (off := 5) (tgt := 29) (by decide +kernel) (by decide +kernel) (fun hc => ?_) (fun hc => ?_)
      · replace h := h.1 hc
        exact ac_X12_isFlip_29 h
      · replace h := h.2 hc
        refine tq_k_ic (n := 0) (v := (0 : Int32)) (by decide +kernel) kc_0 ?_
        exact tq_ret_z (st := []) (ty := .boolean) (by decide +kernel) (by decide +kernel) rfl h
def wc_X12_flipsOf_42 (B4 : Int32 → Int32 → tq_S → Prop) (Q : tq_O → tq_S → Prop) (a2 : Int32) (s0 : Int32) (s1 : Int32) (z : tq_S) : Prop := ∀ v101 : Int32, v101 = (s1 + s0) → ∀ v102 : Int32, v102 = a2 + (1 : Int32) → B4 v101 v102 z
theorem ac_X12_flipsOf_42 {K : Nat × (Nat → Int32)} {x : Nat} {Q : tq_O → tq_S → Prop} {B4 : Int32 → Int32 → tq_S → Prop} {a2 : Int32} {s0 : Int32} {s1 : Int32} {z : tq_S} (hB4 : ∀ (b1 : Int32) (b2 : Int32) (z : tq_S), B4 b1 b2 z → tq_T K 3 x mm_X12_flipsOf 4 [.ref 51, .int b1, .int b2] [] z Q) (h : wc_X12_flipsOf_42 B4 Q a2 s0 s1 z) : tq_T K 3 x mm_X12_flipsOf 42 [.ref 51, .null, .int a2] [.int s0, .int s1] z Q := by
  unfold wc_X12_flipsOf_42 at h
  refine tq_s_iadd (by decide +kernel) ?_
  refine tq_g_istore_n (kk := 1) (fun v101 => [.ref 51, .int v101, .int a2]) (by decide +kernel) (by decide) (fun _ => rfl) (fun v101 ev101 => ?_)
  replace h := h v101 ev101
  refine tq_g_iinc (i := 2) (fun v102 => [.ref 51, .int v101, .int v102]) (by decide +kernel) rfl (1 : Int32) kc_1 (fun _ => rfl) (fun v102 ev102 => ?_)
  replace h := h v102 ev102
  refine tq_s_goto (off := -43) (tgt := 4) (by decide +kernel) (by decide +kernel) ?_
  exact hB4 _ _ _ h
def wc_X12_flipsOf_41 (B4 : Int32 → Int32 → tq_S → Prop) (Q : tq_O → tq_S → Prop) (a2 : Int32) (s0 : Int32) (z : tq_S) : Prop := wc_X12_flipsOf_42 B4 Q a2 (0 : Int32) s0 z
theorem ac_X12_flipsOf_41 {K : Nat × (Nat → Int32)} {x : Nat} {Q : tq_O → tq_S → Prop} {B4 : Int32 → Int32 → tq_S → Prop} {a2 : Int32} {s0 : Int32} {z : tq_S} (hB4 : ∀ (b1 : Int32) (b2 : Int32) (z : tq_S), B4 b1 b2 z → tq_T K 3 x mm_X12_flipsOf 4 [.ref 51, .int b1, .int b2] [] z Q) (h : wc_X12_flipsOf_41 B4 Q a2 s0 z) : tq_T K 3 x mm_X12_flipsOf 41 [.ref 51, .null, .int a2] [.int s0] z Q := by
  unfold wc_X12_flipsOf_41 at h
  refine tq_k_ic (n := 0) (v := (0 : Int32)) (by decide +kernel) kc_0 ?_
  exact ac_X12_flipsOf_42 hB4 h
def wb_X12_flipsOf_4 (B4 : Int32 → Int32 → tq_S → Prop) (Q : tq_O → tq_S → Prop) (a1 : Int32) (a2 : Int32) (z : tq_S) : Prop := (((64 : Int32) ≤ a2 → Q (.inl (some (.int a1))) z) ∧ (¬ (64 : Int32) ≤ a2 → (((tq_fi z 3265) ≤ (a2 - a2 / (8 : Int32) * (8 : Int32)) → wc_X12_flipsOf_41 B4 Q a2 a1 z) ∧ (¬ (tq_fi z 3265) ≤ (a2 - a2 / (8 : Int32) * (8 : Int32)) → wm_X12_isFlip (a2 - a2 / (8 : Int32) * (8 : Int32)) (a2 / (8 : Int32)) z (tq_wi fun r102 z101 => ((r102 = 0 → wc_X12_flipsOf_41 B4 Q a2 a1 z101) ∧ (¬ r102 = 0 → wc_X12_flipsOf_42 B4 Q a2 (1 : Int32) a1 z101)))))))
def wc_X12_flipsOf_4 (Q : tq_O → tq_S → Prop) (a1 : Int32) (a2 : Int32) (z : tq_S) : Prop := tq_lp (σ := Int32 × Int32 × tq_S) (fun B s => wb_X12_flipsOf_4 (fun b1 b2 z => B (b1, b2, z)) Q s.1 s.2.1 s.2.2) (a1, a2, z)
theorem ab_X12_flipsOf_4 {K : Nat × (Nat → Int32)} {x : Nat} {Q : tq_O → tq_S → Prop} {B4 : Int32 → Int32 → tq_S → Prop} {a1 : Int32} {a2 : Int32} {z : tq_S} (hB4 : ∀ (b1 : Int32) (b2 : Int32) (z : tq_S), B4 b1 b2 z → tq_T K 3 x mm_X12_flipsOf 4 [.ref 51, .int b1, .int b2] [] z Q) (h : wb_X12_flipsOf_4 B4 Q a1 a2 z) : tq_T K 3 x mm_X12_flipsOf 4 [.ref 51, .int a1, .int a2] [] z Q := by
  unfold wb_X12_flipsOf_4 at h
  refine tq_s_iload_n (kk := 2) (by decide +kernel) rfl ?_
  refine tq_k_bi (n := 64) (v := (64 : Int32)) (by decide +kernel) kb_64 ?_
  refine tq_icmp_ge (off := 43) (tgt := 50) (by decide +kernel) (by decide +kernel) (fun hc => ?_) (fun hc => ?_)
  · replace h := h.1 hc
    refine tq_s_iload_n (kk := 1) (by decide +kernel) rfl ?_
    exact tq_ret_i (st := []) (by decide +kernel) rfl h
  · replace h := h.2 hc
    refine tq_s_iload_n (kk := 1) (by decide +kernel) rfl ?_
    refine tq_s_iload_n (kk := 2) (by decide +kernel) rfl ?_
    refine tq_k_bi (n := 8) (v := (8 : Int32)) (by decide +kernel) kb_8 ?_
    refine tq_s_irem (by decide +kernel) (by decide +kernel) ?_
    refine tq_s_aload_n (kk := 0) (by decide +kernel) rfl ?_
    refine fg_12_7_51 rfl (by decide +kernel) ?_
    refine tq_icmp_ge (off := 22) (tgt := 41) (by decide +kernel) (by decide +kernel) (fun hc => ?_) (fun hc => ?_)
    · replace h := h.1 hc
      exact tq_to (tq_lk1 (tq_ld1 (tq_lk1 tq_l0))) (ac_X12_flipsOf_41 hB4 h)
    · replace h := h.2 hc
      refine tq_s_aload_n (kk := 0) (by decide +kernel) rfl ?_
      refine tq_s_iload_n (kk := 2) (by decide +kernel) rfl ?_
      refine tq_k_bi (n := 8) (v := (8 : Int32)) (by decide +kernel) kb_8 ?_
      refine tq_s_irem (by decide +kernel) (by decide +kernel) ?_
      refine tq_s_iload_n (kk := 2) (by decide +kernel) rfl ?_
      refine tq_k_bi (n := 8) (v := (8 : Int32)) (by decide +kernel) kb_8 ?_
      refine tq_s_idiv (by decide +kernel) (by decide +kernel) ?_
      refine tq_callV (as := [.int (a2 - a2 / (8 : Int32) * (8 : Int32)), .int (a2 / (8 : Int32))]) (st := [.int a1]) (d1 := 2) (x1 := 0) (x2 := x) (by decide +kernel) ln_12_263 mf_X12_isFlip rfl sh_51 rfl (by decide) np_X12_isFlip rfl (Nat.le_of_ble_eq_true rfl) (by decide) (Nat.zero_add _).symm (tq_M_mono (am_X12_isFlip h) ?_)
      refine tq_wi_e (fun r102 z101 h => ?_)
      refine tq_if_eq (off := 7) (tgt := 41) (by decide +kernel) (by decide +kernel) (fun hc => ?_) (fun hc => ?_)
      · replace h := h.1 hc
        exact tq_to (tq_lk1 (tq_ld1 (tq_lk1 tq_l0))) (ac_X12_flipsOf_41 hB4 h)
      · replace h := h.2 hc
        refine tq_k_ic (n := 1) (v := (1 : Int32)) (by decide +kernel) kc_1 ?_
        refine tq_s_goto (off := 4) (tgt := 42) (by decide +kernel) (by decide +kernel) ?_
        exact tq_to (tq_lk1 (tq_ld1 (tq_lk1 tq_l0))) (ac_X12_flipsOf_42 hB4 h)
theorem ac_X12_flipsOf_4 {K : Nat × (Nat → Int32)} {x : Nat} {Q : tq_O → tq_S → Prop} {a1 : Int32} {a2 : Int32} {z : tq_S} (h : wc_X12_flipsOf_4 Q a1 a2 z) : tq_T K 3 x mm_X12_flipsOf 4 [.ref 51, .int a1, .int a2] [] z Q :=
  tq_lp_T (σ := Int32 × Int32 × tq_S) (s := (a1, a2, z)) (G := fun s => tq_T K 3 x mm_X12_flipsOf 4 [.ref 51, .int s.1, .int s.2.1] [] s.2.2 Q) (fun B hB s h => ab_X12_flipsOf_4 (fun b1 b2 z h => hB (b1, b2, z) h) h) h
def wm_X12_flipsOf  (z : tq_S) (Q : tq_O → tq_S → Prop) : Prop := wc_X12_flipsOf_4 Q (0 : Int32) (0 : Int32) z
theorem am_X12_flipsOf {K : Nat × (Nat → Int32)} {x : Nat} {z : tq_S} {Q : tq_O → tq_S → Prop}  (h : wm_X12_flipsOf z Q) : tq_M K 3 x mm_X12_flipsOf [.ref 51] z Q := by
  unfold wm_X12_flipsOf at h
  refine tq_enter (L := [.ref 51, .null, .null]) mf_X12_flipsOf.1 rfl rfl (Nat.le_of_ble_eq_true rfl) ?_
  refine tq_k_ic (n := 0) (v := (0 : Int32)) (by decide +kernel) kc_0 ?_
  refine tq_s_istore_n (kk := 1) (L9 := [.ref 51, .int (0 : Int32), .null]) (by decide +kernel) (by decide) rfl ?_
  refine tq_k_ic (n := 0) (v := (0 : Int32)) (by decide +kernel) kc_0 ?_
  refine tq_s_istore_n (kk := 2) (L9 := [.ref 51, .int (0 : Int32), .int (0 : Int32)]) (by decide +kernel) (by decide) rfl ?_
  exact ac_X12_flipsOf_4 h
def wm_X12_flips  (z : tq_S) (Q : tq_O → tq_S → Prop) : Prop := wm_X12_hasNone (1 : Int32) z (tq_wi fun r2 z1 => ((r2 = 0 → wm_X12_flipsOf z1 (tq_wi fun r4 z3 => Q (.inl (some (.int r4))) z3)) ∧ (¬ r2 = 0 → Q (.inl (some (.int (0 : Int32)))) z1)))
theorem am_X12_flips {K : Nat × (Nat → Int32)} {x : Nat} {z : tq_S} {Q : tq_O → tq_S → Prop}  (h : wm_X12_flips z Q) : tq_M K 4 x mm_X12_flips [.ref 51] z Q := by
  unfold wm_X12_flips at h
  refine tq_enter (L := [.ref 51]) mf_X12_flips.1 rfl rfl (Nat.le_of_ble_eq_true rfl) ?_
  refine tq_s_aload_n (kk := 0) (by decide +kernel) rfl ?_
  refine tq_k_ic (n := 1) (v := (1 : Int32)) (by decide +kernel) kc_1 ?_
  refine tq_callV (as := [.int (1 : Int32)]) (st := []) (d1 := 1) (x1 := 0) (x2 := x) (by decide +kernel) ln_12_257 mf_X12_hasNone rfl sh_51 rfl (by decide) np_X12_hasNone rfl (Nat.le_of_ble_eq_true rfl) (by decide) (Nat.zero_add _).symm (tq_M_mono (am_X12_hasNone h) ?_)
  refine tq_wi_e (fun r2 z1 h => ?_)
  refine tq_if_eq (off := 7) (tgt := 12) (by decide +kernel) (by decide +kernel) (fun hc => ?_) (fun hc => ?_)
  · replace h := h.1 hc
    refine tq_s_aload_n (kk := 0) (by decide +kernel) rfl ?_
    refine tq_callV (as := []) (st := []) (d1 := 3) (x1 := 0) (x2 := x) (by decide +kernel) ln_12_266 mf_X12_flipsOf rfl sh_51 rfl (by decide) np_X12_flipsOf rfl (Nat.le_of_ble_eq_true rfl) (by decide) (Nat.zero_add _).symm (tq_M_mono (am_X12_flipsOf h) ?_)
    refine tq_wi_e (fun r4 z3 h => ?_)
    exact tq_ret_i (st := []) (by decide +kernel) rfl h
  · replace h := h.2 hc
    refine tq_k_ic (n := 0) (v := (0 : Int32)) (by decide +kernel) kc_0 ?_
    refine tq_s_goto (off := 7) (tgt := 16) (by decide +kernel) (by decide +kernel) ?_
    exact tq_ret_i (st := []) (by decide +kernel) rfl h
def wc_X12_flip_85 (B45 : Int32 → Int32 → tq_S → Prop) (Q : tq_O → tq_S → Prop) (a1 : Int32) (a3 : Int32) (s0 : Int32) (s1 : Int32) (z : tq_S) : Prop := ∀ v101 : Int32, v101 = (s1 + s0) → B45 v101 a3 z
theorem ac_X12_flip_85 {K : Nat × (Nat → Int32)} {x : Nat} {Q : tq_O → tq_S → Prop} {B45 : Int32 → Int32 → tq_S → Prop} {a1 : Int32} {a3 : Int32} {s0 : Int32} {s1 : Int32} {z : tq_S} (hB45 : ∀ (b2 : Int32) (b3 : Int32) (z : tq_S), B45 b2 b3 z → tq_T K 4 x mm_X12_flip 45 [.ref 51, .int a1, .int b2, .int b3, .null] [] z Q) (h : wc_X12_flip_85 B45 Q a1 a3 s0 s1 z) : tq_T K 4 x mm_X12_flip 85 [.ref 51, .int a1, .null, .int a3, .null] [.int s0, .int s1] z Q := by
  unfold wc_X12_flip_85 at h
  refine tq_s_iadd (by decide +kernel) ?_
  refine tq_g_istore_n (kk := 2) (fun v101 => [.ref 51, .int a1, .int v101, .int a3, .null]) (by decide +kernel) (by decide) (fun _ => rfl) (fun v101 ev101 => ?_)
  replace h := h v101 ev101
  refine tq_s_goto (off := -42) (tgt := 45) (by decide +kernel) (by decide +kernel) ?_
  exact hB45 _ _ _ h
def wc_X12_flip_84 (B45 : Int32 → Int32 → tq_S → Prop) (Q : tq_O → tq_S → Prop) (a1 : Int32) (a3 : Int32) (s0 : Int32) (z : tq_S) : Prop := wc_X12_flip_85 B45 Q a1 a3 (0 : Int32) s0 z
theorem ac_X12_flip_84 {K : Nat × (Nat → Int32)} {x : Nat} {Q : tq_O → tq_S → Prop} {B45 : Int32 → Int32 → tq_S → Prop} {a1 : Int32} {a3 : Int32} {s0 : Int32} {z : tq_S} (hB45 : ∀ (b2 : Int32) (b3 : Int32) (z : tq_S), B45 b2 b3 z → tq_T K 4 x mm_X12_flip 45 [.ref 51, .int a1, .int b2, .int b3, .null] [] z Q) (h : wc_X12_flip_84 B45 Q a1 a3 s0 z) : tq_T K 4 x mm_X12_flip 84 [.ref 51, .int a1, .null, .int a3, .null] [.int s0] z Q := by
  unfold wc_X12_flip_84 at h
  refine tq_k_ic (n := 0) (v := (0 : Int32)) (by decide +kernel) kc_0 ?_
  exact ac_X12_flip_85 hB45 h
def wc_X12_flip_169 (Q : tq_O → tq_S → Prop)  (z : tq_S) : Prop := wm_X12_flipsOf z (tq_wi fun r102 z101 => Q (.inl (some (.int r102))) z101)
theorem ac_X12_flip_169 {K : Nat × (Nat → Int32)} {x : Nat} {Q : tq_O → tq_S → Prop}  {z : tq_S} (h : wc_X12_flip_169 Q z) : tq_T K 4 x mm_X12_flip 169 [.ref 51, .null, .null, .null, .null] [] z Q := by
  unfold wc_X12_flip_169 at h
  refine tq_s_aload_n (kk := 0) (by decide +kernel) rfl ?_
  refine tq_callV (as := []) (st := []) (d1 := 3) (x1 := 0) (x2 := x) (by decide +kernel) ln_12_266 mf_X12_flipsOf rfl sh_51 rfl (by decide) np_X12_flipsOf rfl (Nat.le_of_ble_eq_true rfl) (by decide) (Nat.zero_add _).symm (tq_M_mono (am_X12_flipsOf h) ?_)
  refine tq_wi_e (fun r102 z101 h => ?_)
  exact tq_ret_i (st := []) (by decide +kernel) rfl h
def wc_X12_flip_90 (Q : tq_O → tq_S → Prop) (a3 : Int32) (z : tq_S) : Prop := (¬ (tq_fi z 3265) = 0) ∧ ∀ v101 : Int32, v101 = (((a3 / (8 : Int32)) * (8 : Int32)) + (((a3 - a3 / (8 : Int32) * (8 : Int32)) + (1 : Int32)) - ((a3 - a3 / (8 : Int32) * (8 : Int32)) + (1 : Int32)) / (tq_fi z 3265) * (tq_fi z 3265))) → vp_in a3 64 ∧ ((¬ (tq_ai z 56 (Int32.toNatClampNeg a3)) = (101 : Int32) → wm_X12_lay a3 v101 (0 : Int32) z (tq_wv fun z102 => wm_X12_lay (a3 + (8 : Int32)) (v101 + (8 : Int32)) (0 : Int32) z102 (tq_wv fun z103 => wc_X12_flip_169 Q z103))) ∧ ((tq_ai z 56 (Int32.toNatClampNeg a3)) = (101 : Int32) → wm_X12_lay a3 (a3 + (8 : Int32)) (1 : Int32) z (tq_wv fun z104 => wm_X12_lay v101 (v101 + (8 : Int32)) (1 : Int32) z104 (tq_wv fun z105 => wc_X12_flip_169 Q z105))))
theorem ac_X12_flip_90 {K : Nat × (Nat → Int32)} {x : Nat} {Q : tq_O → tq_S → Prop} {a3 : Int32} {z : tq_S} (h : wc_X12_flip_90 Q a3 z) : tq_T K 4 x mm_X12_flip 90 [.ref 51, .null, .null, .int a3, .null] [] z Q := by
  unfold wc_X12_flip_90 at h
  refine tq_s_iload_n (kk := 3) (by decide +kernel) rfl ?_
  refine tq_k_bi (n := 8) (v := (8 : Int32)) (by decide +kernel) kb_8 ?_
  refine tq_s_idiv (by decide +kernel) (by decide +kernel) ?_
  refine tq_k_bi (n := 8) (v := (8 : Int32)) (by decide +kernel) kb_8 ?_
  refine tq_s_imul (by decide +kernel) ?_
  refine tq_s_iload_n (kk := 3) (by decide +kernel) rfl ?_
  refine tq_k_bi (n := 8) (v := (8 : Int32)) (by decide +kernel) kb_8 ?_
  refine tq_s_irem (by decide +kernel) (by decide +kernel) ?_
  refine tq_k_ic (n := 1) (v := (1 : Int32)) (by decide +kernel) kc_1 ?_
  refine tq_s_iadd (by decide +kernel) ?_
  refine tq_s_aload_n (kk := 0) (by decide +kernel) rfl ?_
  refine fg_12_7_51 rfl (by decide +kernel) ?_
  refine tq_s_irem (by decide +kernel) h.1 ?_
  replace h := h.2
  refine tq_s_iadd (by decide +kernel) ?_
  refine tq_g_istore (i := 4) (fun v101 => [.ref 51, .null, .null, .int a3, .int v101]) (by decide +kernel) (by decide) (fun _ => rfl) (fun v101 ev101 => ?_)
  replace h := h v101 ev101
  refine tq_s_aload_n (kk := 0) (by decide +kernel) rfl ?_
  refine fg_12_30_51 rfl (by decide +kernel) ?_
  refine tq_s_iload_n (kk := 3) (by decide +kernel) rfl ?_
  refine tq_s_cald (by decide +kernel) sh_56 h.1 ?_
  replace h := h.2
  refine tq_k_bi (n := 101) (v := (101 : Int32)) (by decide +kernel) kb_101 ?_
  refine tq_icmp_ne (off := 28) (tgt := 147) (by decide +kernel) (by decide +kernel) (fun hc => ?_) (fun hc => ?_)
  · replace h := h.1 hc
    refine tq_s_aload_n (kk := 0) (by decide +kernel) rfl ?_
    refine tq_s_iload_n (kk := 3) (by decide +kernel) rfl ?_
    refine tq_s_iload (i := 4) (by decide +kernel) rfl ?_
    refine tq_k_ic (n := 0) (v := (0 : Int32)) (by decide +kernel) kc_0 ?_
    refine tq_callV (as := [.int a3, .int v101, .int (0 : Int32)]) (st := []) (d1 := 0) (x1 := 0) (x2 := x) (by decide +kernel) ln_12_247 mf_X12_lay rfl sh_51 rfl (by decide) np_X12_lay rfl (Nat.le_of_ble_eq_true rfl) (by decide) (Nat.zero_add _).symm (tq_M_mono (am_X12_lay h) ?_)
    refine tq_wv_e (fun z102 h => ?_)
    refine tq_s_aload_n (kk := 0) (by decide +kernel) rfl ?_
    refine tq_s_iload_n (kk := 3) (by decide +kernel) rfl ?_
    refine tq_k_bi (n := 8) (v := (8 : Int32)) (by decide +kernel) kb_8 ?_
    refine tq_s_iadd (by decide +kernel) ?_
    refine tq_s_iload (i := 4) (by decide +kernel) rfl ?_
    refine tq_k_bi (n := 8) (v := (8 : Int32)) (by decide +kernel) kb_8 ?_
    refine tq_s_iadd (by decide +kernel) ?_
    refine tq_k_ic (n := 0) (v := (0 : Int32)) (by decide +kernel) kc_0 ?_
    refine tq_callV (as := [.int (a3 + (8 : Int32)), .int (v101 + (8 : Int32)), .int (0 : Int32)]) (st := []) (d1 := 0) (x1 := 0) (x2 := x) (by decide +kernel) ln_12_247 mf_X12_lay rfl sh_51 rfl (by decide) np_X12_lay rfl (Nat.le_of_ble_eq_true rfl) (by decide) (Nat.zero_add _).symm (tq_M_mono (am_X12_lay h) ?_)
    refine tq_wv_e (fun z103 h => ?_)
    exact tq_to (tq_lk1 (tq_lk1 (tq_lk1 (tq_ld1 (tq_ld1 tq_l0))))) (ac_X12_flip_169 h)
  · replace h := h.2 hc
    refine tq_s_aload_n (kk := 0) (by decide +kernel) rfl ?_
    refine tq_s_iload_n (kk := 3) (by decide +kernel) rfl ?_
    refine tq_s_iload_n (kk := 3) (by decide +kernel) rfl ?_
    refine tq_k_bi (n := 8) (v := (8 : Int32)) (by decide +kernel) kb_8 ?_
    refine tq_s_iadd (by decide +kernel) ?_
    refine tq_k_ic (n := 1) (v := (1 : Int32)) (by decide +kernel) kc_1 ?_
    refine tq_callV (as := [.int a3, .int (a3 + (8 : Int32)), .int (1 : Int32)]) (st := []) (d1 := 0) (x1 := 0) (x2 := x) (by decide +kernel) ln_12_247 mf_X12_lay rfl sh_51 rfl (by decide) np_X12_lay rfl (Nat.le_of_ble_eq_true rfl) (by decide) (Nat.zero_add _).symm (tq_M_mono (am_X12_lay h) ?_)
    refine tq_wv_e (fun z104 h => ?_)
    refine tq_s_aload_n (kk := 0) (by decide +kernel) rfl ?_
    refine tq_s_iload (i := 4) (by decide +kernel) rfl ?_
    refine tq_s_iload (i := 4) (by decide +kernel) rfl ?_
    refine tq_k_bi (n := 8) (v := (8 : Int32)) (by decide +kernel) kb_8 ?_
    refine tq_s_iadd (by decide +kernel) ?_
    refine tq_k_ic (n := 1) (v := (1 : Int32)) (by decide +kernel) kc_1 ?_
    refine tq_callV (as := [.int v101, .int (v101 + (8 : Int32)), .int (1 : Int32)]) (st := []) (d1 := 0) (x1 := 0) (x2 := x) (by decide +kernel) ln_12_247 mf_X12_lay rfl sh_51 rfl (by decide) np_X12_lay rfl (Nat.le_of_ble_eq_true rfl) (by decide) (Nat.zero_add _).symm (tq_M_mono (am_X12_lay h) ?_)
    refine tq_wv_e (fun z105 h => ?_)
    refine tq_s_goto (off := 25) (tgt := 169) (by decide +kernel) (by decide +kernel) ?_
    exact tq_to (tq_lk1 (tq_lk1 (tq_lk1 (tq_ld1 (tq_ld1 tq_l0))))) (ac_X12_flip_169 h)
def wb_X12_flip_45 (B45 : Int32 → Int32 → tq_S → Prop) (Q : tq_O → tq_S → Prop) (a1 : Int32) (a2 : Int32) (a3 : Int32) (z : tq_S) : Prop := ((a1 ≤ a2 → wc_X12_flip_90 Q a3 z) ∧ (¬ a1 ≤ a2 → ∀ v101 : Int32, v101 = a3 + (1 : Int32) → (((tq_fi z 3265) ≤ (v101 - v101 / (8 : Int32) * (8 : Int32)) → wc_X12_flip_84 B45 Q a1 v101 a2 z) ∧ (¬ (tq_fi z 3265) ≤ (v101 - v101 / (8 : Int32) * (8 : Int32)) → wm_X12_isFlip (v101 - v101 / (8 : Int32) * (8 : Int32)) (v101 / (8 : Int32)) z (tq_wi fun r103 z102 => ((r103 = 0 → wc_X12_flip_84 B45 Q a1 v101 a2 z102) ∧ (¬ r103 = 0 → wc_X12_flip_85 B45 Q a1 v101 (1 : Int32) a2 z102)))))))
def wc_X12_flip_45 (Q : tq_O → tq_S → Prop) (a1 : Int32) (a2 : Int32) (a3 : Int32) (z : tq_S) : Prop := tq_lp (σ := Int32 × Int32 × tq_S) (fun B s => wb_X12_flip_45 (fun b2 b3 z => B (b2, b3, z)) Q a1 s.1 s.2.1 s.2.2) (a2, a3, z)
theorem ab_X12_flip_45 {K : Nat × (Nat → Int32)} {x : Nat} {Q : tq_O → tq_S → Prop} {B45 : Int32 → Int32 → tq_S → Prop} {a1 : Int32} {a2 : Int32} {a3 : Int32} {z : tq_S} (hB45 : ∀ (b2 : Int32) (b3 : Int32) (z : tq_S), B45 b2 b3 z → tq_T K 4 x mm_X12_flip 45 [.ref 51, .int a1, .int b2, .int b3, .null] [] z Q) (h : wb_X12_flip_45 B45 Q a1 a2 a3 z) : tq_T K 4 x mm_X12_flip 45 [.ref 51, .int a1, .int a2, .int a3, .null] [] z Q := by
  unfold wb_X12_flip_45 at h
  refine tq_s_iload_n (kk := 2) (by decide +kernel) rfl ?_
  refine tq_s_iload_n (kk := 1) (by decide +kernel) rfl ?_
  refine tq_icmp_ge (off := 43) (tgt := 90) (by decide +kernel) (by decide +kernel) (fun hc => ?_) (fun hc => ?_)
  · replace h := h.1 hc
    exact tq_to (tq_lk1 (tq_ld1 (tq_ld1 (tq_lk1 (tq_lk1 tq_l0))))) (ac_X12_flip_90 h)
  · replace h := h.2 hc
    refine tq_g_iinc (i := 3) (fun v101 => [.ref 51, .int a1, .int a2, .int v101, .null]) (by decide +kernel) rfl (1 : Int32) kc_1 (fun _ => rfl) (fun v101 ev101 => ?_)
    replace h := h v101 ev101
    refine tq_s_iload_n (kk := 2) (by decide +kernel) rfl ?_
    refine tq_s_iload_n (kk := 3) (by decide +kernel) rfl ?_
    refine tq_k_bi (n := 8) (v := (8 : Int32)) (by decide +kernel) kb_8 ?_
    refine tq_s_irem (by decide +kernel) (by decide +kernel) ?_
    refine tq_s_aload_n (kk := 0) (by decide +kernel) rfl ?_
    refine fg_12_7_51 rfl (by decide +kernel) ?_
    refine tq_icmp_ge (off := 22) (tgt := 84) (by decide +kernel) (by decide +kernel) (fun hc => ?_) (fun hc => ?_)
    · replace h := h.1 hc
      exact tq_to (tq_lk1 (tq_lk1 (tq_ld1 (tq_lk1 (tq_lk1 tq_l0))))) (ac_X12_flip_84 hB45 h)
    · replace h := h.2 hc
      refine tq_s_aload_n (kk := 0) (by decide +kernel) rfl ?_
      refine tq_s_iload_n (kk := 3) (by decide +kernel) rfl ?_
      refine tq_k_bi (n := 8) (v := (8 : Int32)) (by decide +kernel) kb_8 ?_
      refine tq_s_irem (by decide +kernel) (by decide +kernel) ?_
      refine tq_s_iload_n (kk := 3) (by decide +kernel) rfl ?_
      refine tq_k_bi (n := 8) (v := (8 : Int32)) (by decide +kernel) kb_8 ?_
      refine tq_s_idiv (by decide +kernel) (by decide +kernel) ?_
      refine tq_callV (as := [.int (v101 - v101 / (8 : Int32) * (8 : Int32)), .int (v101 / (8 : Int32))]) (st := [.int a2]) (d1 := 2) (x1 := 0) (x2 := x) (by decide +kernel) ln_12_263 mf_X12_isFlip rfl sh_51 rfl (by decide) np_X12_isFlip rfl (Nat.le_of_ble_eq_true rfl) (by decide) (Nat.zero_add _).symm (tq_M_mono (am_X12_isFlip h) ?_)
      refine tq_wi_e (fun r103 z102 h => ?_)
      refine tq_if_eq (off := 7) (tgt := 84) (by decide +kernel) (by decide +kernel) (fun hc => ?_) (fun hc => ?_)
      · replace h := h.1 hc
        exact tq_to (tq_lk1 (tq_lk1 (tq_ld1 (tq_lk1 (tq_lk1 tq_l0))))) (ac_X12_flip_84 hB45 h)
      · replace h := h.2 hc
        refine tq_k_ic (n := 1) (v := (1 : Int32)) (by decide +kernel) kc_1 ?_
        refine tq_s_goto (off := 4) (tgt := 85) (by decide +kernel) (by decide +kernel) ?_
        exact tq_to (tq_lk1 (tq_lk1 (tq_ld1 (tq_lk1 (tq_lk1 tq_l0))))) (ac_X12_flip_85 hB45 h)
theorem ac_X12_flip_45 {K : Nat × (Nat → Int32)} {x : Nat} {Q : tq_O → tq_S → Prop} {a1 : Int32} {a2 : Int32} {a3 : Int32} {z : tq_S} (h : wc_X12_flip_45 Q a1 a2 a3 z) : tq_T K 4 x mm_X12_flip 45 [.ref 51, .int a1, .int a2, .int a3, .null] [] z Q :=
  tq_lp_T (σ := Int32 × Int32 × tq_S) (s := (a2, a3, z)) (G := fun s => tq_T K 4 x mm_X12_flip 45 [.ref 51, .int a1, .int s.1, .int s.2.1, .null] [] s.2.2 Q) (fun B hB s h => ab_X12_flip_45 (fun b2 b3 z h => hB (b2, b3, z) h) h) h
def wc_X12_flip_28 (Q : tq_O → tq_S → Prop) (a1 : Int32) (s0 : Int32) (z : tq_S) : Prop := wm_X12_isThrown s0 (2 : Int32) z (tq_wi fun r102 z101 => ((r102 = 0 → wm_X12_keepUndo z101 (tq_wv fun z103 => wc_X12_flip_45 Q a1 (-1 : Int32) (-1 : Int32) z103)) ∧ (¬ r102 = 0 → Q (.inl (some (.int (0 : Int32)))) z101)))
theorem ac_X12_flip_28 {K : Nat × (Nat → Int32)} {x : Nat} {Q : tq_O → tq_S → Prop} {a1 : Int32} {s0 : Int32} {z : tq_S} (h : wc_X12_flip_28 Q a1 s0 z) : tq_T K 4 x mm_X12_flip 28 [.ref 51, .int a1, .null, .null, .null] [.int s0, .ref 51] z Q := by
  unfold wc_X12_flip_28 at h
  refine tq_k_ic (n := 2) (v := (2 : Int32)) (by decide +kernel) kc_2 ?_
  refine tq_callV (as := [.int s0, .int (2 : Int32)]) (st := []) (d1 := 0) (x1 := 0) (x2 := x) (by decide +kernel) ln_12_152 mf_X12_isThrown rfl sh_51 rfl (by decide) np_X12_isThrown rfl (Nat.le_of_ble_eq_true rfl) (by decide) (Nat.zero_add _).symm (tq_M_mono (am_X12_isThrown h) ?_)
  refine tq_wi_e (fun r102 z101 h => ?_)
  refine tq_if_eq (off := 5) (tgt := 37) (by decide +kernel) (by decide +kernel) (fun hc => ?_) (fun hc => ?_)
  · replace h := h.1 hc
    refine tq_s_aload_n (kk := 0) (by decide +kernel) rfl ?_
    refine tq_callV (as := []) (st := []) (d1 := 0) (x1 := 0) (x2 := x) (by decide +kernel) ln_12_251 mf_X12_keepUndo rfl sh_51 rfl (by decide) np_X12_keepUndo rfl (Nat.le_of_ble_eq_true rfl) (by decide) (Nat.zero_add _).symm (tq_M_mono (am_X12_keepUndo h) ?_)
    refine tq_wv_e (fun z103 h => ?_)
    refine tq_k_ic (n := -1) (v := (-1 : Int32)) (by decide +kernel) kc_m1 ?_
    refine tq_s_istore_n (kk := 2) (L9 := [.ref 51, .int a1, .int (-1 : Int32), .null, .null]) (by decide +kernel) (by decide) rfl ?_
    refine tq_k_ic (n := -1) (v := (-1 : Int32)) (by decide +kernel) kc_m1 ?_
    refine tq_s_istore_n (kk := 3) (L9 := [.ref 51, .int a1, .int (-1 : Int32), .int (-1 : Int32), .null]) (by decide +kernel) (by decide) rfl ?_
    exact ac_X12_flip_45 h
  · replace h := h.2 hc
    refine tq_k_ic (n := 0) (v := (0 : Int32)) (by decide +kernel) kc_0 ?_
    exact tq_ret_i (st := []) (by decide +kernel) rfl h
def wm_X12_flip (a1 : Int32) (z : tq_S) (Q : tq_O → tq_S → Prop) : Prop := wm_X12_hasNone (1 : Int32) z (tq_wi fun r2 z1 => ((¬ r2 = 0 → Q (.inl (some (.int (0 : Int32)))) z1) ∧ (r2 = 0 → wm_X12_flipsOf z1 (tq_wi fun r4 z3 => wm_X12_isIn a1 (0 : Int32) (r4 - (1 : Int32)) z3 (tq_wi fun r6 z5 => ((¬ r6 = 0 → wc_X12_flip_28 Q a1 (0 : Int32) z5) ∧ (r6 = 0 → wc_X12_flip_28 Q a1 (1 : Int32) z5)))))))
theorem am_X12_flip {K : Nat × (Nat → Int32)} {x : Nat} {z : tq_S} {Q : tq_O → tq_S → Prop} {a1 : Int32} (h : wm_X12_flip a1 z Q) : tq_M K 4 x mm_X12_flip [.ref 51, .int a1] z Q := by
  unfold wm_X12_flip at h
  refine tq_enter (L := [.ref 51, .int a1, .null, .null, .null]) mf_X12_flip.1 rfl rfl (Nat.le_of_ble_eq_true rfl) ?_
  refine tq_s_aload_n (kk := 0) (by decide +kernel) rfl ?_
  refine tq_k_ic (n := 1) (v := (1 : Int32)) (by decide +kernel) kc_1 ?_
  refine tq_callV (as := [.int (1 : Int32)]) (st := []) (d1 := 1) (x1 := 0) (x2 := x) (by decide +kernel) ln_12_257 mf_X12_hasNone rfl sh_51 rfl (by decide) np_X12_hasNone rfl (Nat.le_of_ble_eq_true rfl) (by decide) (Nat.zero_add _).symm (tq_M_mono (am_X12_hasNone h) ?_)
  refine tq_wi_e (fun r2 z1 h => ?_)
  refine tq_if_ne (off := 30) (tgt := 35) (by decide +kernel) (by decide +kernel) (fun hc => ?_) (fun hc => ?_)
  · replace h := h.1 hc
    refine tq_k_ic (n := 0) (v := (0 : Int32)) (by decide +kernel) kc_0 ?_
    exact tq_ret_i (st := []) (by decide +kernel) rfl h
  · replace h := h.2 hc
    refine tq_s_aload_n (kk := 0) (by decide +kernel) rfl ?_
    refine tq_s_iload_n (kk := 1) (by decide +kernel) rfl ?_
    refine tq_k_ic (n := 0) (v := (0 : Int32)) (by decide +kernel) kc_0 ?_
    refine tq_s_aload_n (kk := 0) (by decide +kernel) rfl ?_
    refine tq_callV (as := []) (st := [.int (0 : Int32), .int a1, .ref 51]) (d1 := 3) (x1 := 0) (x2 := x) (by decide +kernel) ln_12_266 mf_X12_flipsOf rfl sh_51 rfl (by decide) np_X12_flipsOf rfl (Nat.le_of_ble_eq_true rfl) (by decide) (Nat.zero_add _).symm (tq_M_mono (am_X12_flipsOf h) ?_)
    refine tq_wi_e (fun r4 z3 h => ?_)
    refine tq_k_ic (n := 1) (v := (1 : Int32)) (by decide +kernel) kc_1 ?_
    refine tq_s_isub (by decide +kernel) ?_
    refine tq_callS (as := [.int a1, .int (0 : Int32), .int (r4 - (1 : Int32))]) (st := [.ref 51]) (d1 := 0) (x1 := 0) (x2 := x) (by decide +kernel) ln_12_148 mf_X12_isIn rfl (by decide) np_X12_isIn rfl (Nat.le_of_ble_eq_true rfl) (by decide) (Nat.zero_add _).symm (tq_M_mono (am_X12_isIn h) ?_)
    refine tq_wi_e (fun r6 z5 h => ?_)
    refine tq_if_ne (off := 7) (tgt := 27) (by decide +kernel) (by decide +kernel) (fun hc => ?_) (fun hc => ?_)
    · replace h := h.1 hc
      refine tq_k_ic (n := 0) (v := (0 : Int32)) (by decide +kernel) kc_0 ?_
      exact ac_X12_flip_28 h
    · replace h := h.2 hc
      refine tq_k_ic (n := 1) (v := (1 : Int32)) (by decide +kernel) kc_1 ?_
      refine tq_s_goto (off := 4) (tgt := 28) (by decide +kernel) (by decide +kernel) ?_
      exact ac_X12_flip_28 h
def wc_X12_undo_79 (Q : tq_O → tq_S → Prop)  (z : tq_S) : Prop := Q (.inl (some (.int (tq_fi z 3276)))) z
theorem ac_X12_undo_79 {K : Nat × (Nat → Int32)} {x : Nat} {Q : tq_O → tq_S → Prop}  {z : tq_S} (h : wc_X12_undo_79 Q z) : tq_T K 1 x mm_X12_undo 79 [.ref 51, .null] [] z Q := by
  unfold wc_X12_undo_79 at h
  refine tq_s_aload_n (kk := 0) (by decide +kernel) rfl ?_
  refine fg_12_139_51 rfl (by decide +kernel) ?_
  exact tq_ret_i (st := []) (by decide +kernel) rfl h
def wb_X12_undo_47 (B47 : Int32 → tq_S → Prop) (Q : tq_O → tq_S → Prop) (a1 : Int32) (z : tq_S) : Prop := (((64 : Int32) ≤ a1 → wc_X12_undo_79 Q z) ∧ (¬ (64 : Int32) ≤ a1 → vp_in (((64 : Int32) * (tq_fi z 3276)) + a1) 640 ∧ vp_in a1 64 ∧ ∀ z101 : tq_S, z101 = tq_sai z 56 (upd (tq_ai z 56) (Int32.toNatClampNeg a1) (vp_nar .char (tq_ai z 59 (Int32.toNatClampNeg (((64 : Int32) * (tq_fi z 3276)) + a1))))) → ∀ v102 : Int32, v102 = a1 + (1 : Int32) → B47 v102 z101))
def wc_X12_undo_47 (Q : tq_O → tq_S → Prop) (a1 : Int32) (z : tq_S) : Prop := tq_lp (σ := Int32 × tq_S) (fun B s => wb_X12_undo_47 (fun b1 z => B (b1, z)) Q s.1 s.2) (a1, z)
theorem ab_X12_undo_47 {K : Nat × (Nat → Int32)} {x : Nat} {Q : tq_O → tq_S → Prop} {B47 : Int32 → tq_S → Prop} {a1 : Int32} {z : tq_S} (hB47 : ∀ (b1 : Int32) (z : tq_S), B47 b1 z → tq_T K 1 x mm_X12_undo 47 [.ref 51, .int b1] [] z Q) (h : wb_X12_undo_47 B47 Q a1 z) : tq_T K 1 x mm_X12_undo 47 [.ref 51, .int a1] [] z Q := by
  unfold wb_X12_undo_47 at h
  refine tq_s_iload_n (kk := 1) (by decide +kernel) rfl ?_
  refine tq_k_bi (n := 64) (v := (64 : Int32)) (by decide +kernel) kb_64 ?_
  refine tq_icmp_ge (off := 29) (tgt := 79) (by decide +kernel) (by decide +kernel) (fun hc => ?_) (fun hc => ?_)
  · replace h := h.1 hc
    exact tq_to (tq_lk1 (tq_ld1 tq_l0)) (ac_X12_undo_79 h)
  · replace h := h.2 hc
    refine tq_s_aload_n (kk := 0) (by decide +kernel) rfl ?_
    refine fg_12_30_51 rfl (by decide +kernel) ?_
    refine tq_s_iload_n (kk := 1) (by decide +kernel) rfl ?_
    refine tq_s_aload_n (kk := 0) (by decide +kernel) rfl ?_
    refine fg_12_40_51 rfl (by decide +kernel) ?_
    refine tq_k_bi (n := 64) (v := (64 : Int32)) (by decide +kernel) kb_64 ?_
    refine tq_s_aload_n (kk := 0) (by decide +kernel) rfl ?_
    refine fg_12_139_51 rfl (by decide +kernel) ?_
    refine tq_s_imul (by decide +kernel) ?_
    refine tq_s_iload_n (kk := 1) (by decide +kernel) rfl ?_
    refine tq_s_iadd (by decide +kernel) ?_
    refine tq_s_cald (by decide +kernel) sh_59 h.1 ?_
    replace h := h.2
    refine tq_g_cast (by decide +kernel) sh_56 h.1 (fun z101 ez101 => ?_)
    replace h := h.2 z101 ez101
    refine tq_g_iinc (i := 1) (fun v102 => [.ref 51, .int v102]) (by decide +kernel) rfl (1 : Int32) kc_1 (fun _ => rfl) (fun v102 ev102 => ?_)
    replace h := h v102 ev102
    refine tq_s_goto (off := -29) (tgt := 47) (by decide +kernel) (by decide +kernel) ?_
    exact hB47 _ _ h
theorem ac_X12_undo_47 {K : Nat × (Nat → Int32)} {x : Nat} {Q : tq_O → tq_S → Prop} {a1 : Int32} {z : tq_S} (h : wc_X12_undo_47 Q a1 z) : tq_T K 1 x mm_X12_undo 47 [.ref 51, .int a1] [] z Q :=
  tq_lp_T (σ := Int32 × tq_S) (s := (a1, z)) (G := fun s => tq_T K 1 x mm_X12_undo 47 [.ref 51, .int s.1] [] s.2 Q) (fun B hB s h => ab_X12_undo_47 (fun b1 z h => hB (b1, z) h) h) h
def wc_X12_undo_13 (Q : tq_O → tq_S → Prop) (s0 : Int32) (z : tq_S) : Prop := wm_X12_isThrown s0 (1 : Int32) z (tq_wi fun r102 z101 => ((r102 = 0 → ∀ z103 : tq_S, z103 = tq_sfi z101 3276 ((tq_fi z101 3276) - (1 : Int32)) → vp_in (tq_fi z103 3276) 10 ∧ tq_nz (tq_ai z103 58 (Int32.toNatClampNeg (tq_fi z103 3276))) ∧ ∀ z104 : tq_S, z104 = tq_sfi z103 3272 (tq_ai z103 58 (Int32.toNatClampNeg (tq_fi z103 3276))) → wc_X12_undo_47 Q (0 : Int32) z104) ∧ (¬ r102 = 0 → Q (.inl (some (.int (0 : Int32)))) z101)))
theorem ac_X12_undo_13 {K : Nat × (Nat → Int32)} {x : Nat} {Q : tq_O → tq_S → Prop} {s0 : Int32} {z : tq_S} (h : wc_X12_undo_13 Q s0 z) : tq_T K 1 x mm_X12_undo 13 [.ref 51, .null] [.int s0, .ref 51] z Q := by
  unfold wc_X12_undo_13 at h
  refine tq_k_ic (n := 1) (v := (1 : Int32)) (by decide +kernel) kc_1 ?_
  refine tq_callV (as := [.int s0, .int (1 : Int32)]) (st := []) (d1 := 0) (x1 := 0) (x2 := x) (by decide +kernel) ln_12_152 mf_X12_isThrown rfl sh_51 rfl (by decide) np_X12_isThrown rfl (Nat.le_of_ble_eq_true rfl) (by decide) (Nat.zero_add _).symm (tq_M_mono (am_X12_isThrown h) ?_)
  refine tq_wi_e (fun r102 z101 h => ?_)
  refine tq_if_eq (off := 5) (tgt := 22) (by decide +kernel) (by decide +kernel) (fun hc => ?_) (fun hc => ?_)
  · replace h := h.1 hc
    refine tq_s_aload_n (kk := 0) (by decide +kernel) rfl ?_
    refine tq_s_dup (by decide +kernel) rfl ?_
    refine fg_12_139_51 rfl (by decide +kernel) ?_
    refine tq_k_ic (n := 1) (v := (1 : Int32)) (by decide +kernel) kc_1 ?_
    refine tq_s_isub (by decide +kernel) ?_
    refine fp_12_139_51 rfl (by decide +kernel) (fun z103 ez103 => ?_)
    replace h := h z103 ez103
    refine tq_s_aload_n (kk := 0) (by decide +kernel) rfl ?_
    refine tq_s_aload_n (kk := 0) (by decide +kernel) rfl ?_
    refine fg_12_37_51 rfl (by decide +kernel) ?_
    refine tq_s_aload_n (kk := 0) (by decide +kernel) rfl ?_
    refine fg_12_139_51 rfl (by decide +kernel) ?_
    refine tq_s_zald (by decide +kernel) sh_58 h.1 ?_
    replace h := h.2
    refine fp_12_132_51 rfl (by decide +kernel) (tq_nz_f h.1) (fun z104 ez104 => ?_)
    replace h := h.2 z104 ez104
    refine tq_k_ic (n := 0) (v := (0 : Int32)) (by decide +kernel) kc_0 ?_
    refine tq_s_istore_n (kk := 1) (L9 := [.ref 51, .int (0 : Int32)]) (by decide +kernel) (by decide) rfl ?_
    exact ac_X12_undo_47 h
  · replace h := h.2 hc
    refine tq_k_ic (n := 0) (v := (0 : Int32)) (by decide +kernel) kc_0 ?_
    exact tq_ret_i (st := []) (by decide +kernel) rfl h
def wm_X12_undo  (z : tq_S) (Q : tq_O → tq_S → Prop) : Prop := ((¬ (tq_fi z 3276) = 0 → wc_X12_undo_13 Q (0 : Int32) z) ∧ ((tq_fi z 3276) = 0 → wc_X12_undo_13 Q (1 : Int32) z))
theorem am_X12_undo {K : Nat × (Nat → Int32)} {x : Nat} {z : tq_S} {Q : tq_O → tq_S → Prop}  (h : wm_X12_undo z Q) : tq_M K 1 x mm_X12_undo [.ref 51] z Q := by
  unfold wm_X12_undo at h
  refine tq_enter (L := [.ref 51, .null]) mf_X12_undo.1 rfl rfl (Nat.le_of_ble_eq_true rfl) ?_
  refine tq_s_aload_n (kk := 0) (by decide +kernel) rfl ?_
  refine tq_s_aload_n (kk := 0) (by decide +kernel) rfl ?_
  refine fg_12_139_51 rfl (by decide +kernel) ?_
  refine tq_if_ne (off := 7) (tgt := 12) (by decide +kernel) (by decide +kernel) (fun hc => ?_) (fun hc => ?_)
  · replace h := h.1 hc
    refine tq_k_ic (n := 0) (v := (0 : Int32)) (by decide +kernel) kc_0 ?_
    exact ac_X12_undo_13 h
  · replace h := h.2 hc
    refine tq_k_ic (n := 1) (v := (1 : Int32)) (by decide +kernel) kc_1 ?_
    refine tq_s_goto (off := 4) (tgt := 13) (by decide +kernel) (by decide +kernel) ?_
    exact ac_X12_undo_13 h
def wc_X12_cutsOf_81 (B4 : Int32 → Int32 → tq_S → Prop) (B34 : Int32 → Int32 → tq_S → Prop) (Q : tq_O → tq_S → Prop) (a1 : Int32) (a2 : Int32) (a4 : Int32) (s0 : Int32) (s1 : Int32) (z : tq_S) : Prop := ∀ v101 : Int32, v101 = (s1 &&& s0) → ∀ v102 : Int32, v102 = a4 + (1 : Int32) → B34 v101 v102 z
theorem ac_X12_cutsOf_81 {K : Nat × (Nat → Int32)} {x : Nat} {Q : tq_O → tq_S → Prop} {B4 : Int32 → Int32 → tq_S → Prop} {B34 : Int32 → Int32 → tq_S → Prop} {a1 : Int32} {a2 : Int32} {a4 : Int32} {s0 : Int32} {s1 : Int32} {z : tq_S} (hB4 : ∀ (b1 : Int32) (b2 : Int32) (z : tq_S), B4 b1 b2 z → tq_T K 0 x mm_X12_cutsOf 4 [.ref 51, .int b1, .int b2, .null, .null] [] z Q) (hB34 : ∀ (b3 : Int32) (b4 : Int32) (z : tq_S), B34 b3 b4 z → tq_T K 0 x mm_X12_cutsOf 34 [.ref 51, .int a1, .int a2, .int b3, .int b4] [] z Q) (h : wc_X12_cutsOf_81 B4 B34 Q a1 a2 a4 s0 s1 z) : tq_T K 0 x mm_X12_cutsOf 81 [.ref 51, .int a1, .int a2, .null, .int a4] [.int s0, .int s1] z Q := by
  unfold wc_X12_cutsOf_81 at h
  refine tq_s_iand (by decide +kernel) ?_
  refine tq_g_istore_n (kk := 3) (fun v101 => [.ref 51, .int a1, .int a2, .int v101, .int a4]) (by decide +kernel) (by decide) (fun _ => rfl) (fun v101 ev101 => ?_)
  replace h := h v101 ev101
  refine tq_g_iinc (i := 4) (fun v102 => [.ref 51, .int a1, .int a2, .int v101, .int v102]) (by decide +kernel) rfl (1 : Int32) kc_1 (fun _ => rfl) (fun v102 ev102 => ?_)
  replace h := h v102 ev102
  refine tq_s_goto (off := -52) (tgt := 34) (by decide +kernel) (by decide +kernel) ?_
  exact hB34 _ _ _ h
def wc_X12_cutsOf_76 (B4 : Int32 → Int32 → tq_S → Prop) (B34 : Int32 → Int32 → tq_S → Prop) (Q : tq_O → tq_S → Prop) (a1 : Int32) (a2 : Int32) (a4 : Int32) (s0 : Int32) (z : tq_S) : Prop := wc_X12_cutsOf_81 B4 B34 Q a1 a2 a4 (1 : Int32) s0 z
theorem ac_X12_cutsOf_76 {K : Nat × (Nat → Int32)} {x : Nat} {Q : tq_O → tq_S → Prop} {B4 : Int32 → Int32 → tq_S → Prop} {B34 : Int32 → Int32 → tq_S → Prop} {a1 : Int32} {a2 : Int32} {a4 : Int32} {s0 : Int32} {z : tq_S} (hB4 : ∀ (b1 : Int32) (b2 : Int32) (z : tq_S), B4 b1 b2 z → tq_T K 0 x mm_X12_cutsOf 4 [.ref 51, .int b1, .int b2, .null, .null] [] z Q) (hB34 : ∀ (b3 : Int32) (b4 : Int32) (z : tq_S), B34 b3 b4 z → tq_T K 0 x mm_X12_cutsOf 34 [.ref 51, .int a1, .int a2, .int b3, .int b4] [] z Q) (h : wc_X12_cutsOf_76 B4 B34 Q a1 a2 a4 s0 z) : tq_T K 0 x mm_X12_cutsOf 76 [.ref 51, .int a1, .int a2, .null, .int a4] [.int s0] z Q := by
  unfold wc_X12_cutsOf_76 at h
  refine tq_k_ic (n := 1) (v := (1 : Int32)) (by decide +kernel) kc_1 ?_
  refine tq_s_goto (off := 4) (tgt := 81) (by decide +kernel) (by decide +kernel) ?_
  exact ac_X12_cutsOf_81 hB4 hB34 h
def wc_X12_cutsOf_99 (B4 : Int32 → Int32 → tq_S → Prop) (Q : tq_O → tq_S → Prop) (a2 : Int32) (s0 : Int32) (s1 : Int32) (z : tq_S) : Prop := ∀ v101 : Int32, v101 = (s1 + s0) → ∀ v102 : Int32, v102 = a2 + (1 : Int32) → B4 v101 v102 z
theorem ac_X12_cutsOf_99 {K : Nat × (Nat → Int32)} {x : Nat} {Q : tq_O → tq_S → Prop} {B4 : Int32 → Int32 → tq_S → Prop} {a2 : Int32} {s0 : Int32} {s1 : Int32} {z : tq_S} (hB4 : ∀ (b1 : Int32) (b2 : Int32) (z : tq_S), B4 b1 b2 z → tq_T K 0 x mm_X12_cutsOf 4 [.ref 51, .int b1, .int b2, .null, .null] [] z Q) (h : wc_X12_cutsOf_99 B4 Q a2 s0 s1 z) : tq_T K 0 x mm_X12_cutsOf 99 [.ref 51, .null, .int a2, .null, .null] [.int s0, .int s1] z Q := by
  unfold wc_X12_cutsOf_99 at h
  refine tq_s_iadd (by decide +kernel) ?_
  refine tq_g_istore_n (kk := 1) (fun v101 => [.ref 51, .int v101, .int a2, .null, .null]) (by decide +kernel) (by decide) (fun _ => rfl) (fun v101 ev101 => ?_)
  replace h := h v101 ev101
  refine tq_g_iinc (i := 2) (fun v102 => [.ref 51, .int v101, .int v102, .null, .null]) (by decide +kernel) rfl (1 : Int32) kc_1 (fun _ => rfl) (fun v102 ev102 => ?_)
  replace h := h v102 ev102
  refine tq_s_goto (off := -100) (tgt := 4) (by decide +kernel) (by decide +kernel) ?_
  exact hB4 _ _ _ h
def wc_X12_cutsOf_89 (B4 : Int32 → Int32 → tq_S → Prop) (Q : tq_O → tq_S → Prop) (a1 : Int32) (a2 : Int32) (a3 : Int32) (z : tq_S) : Prop := ((a3 = 0 → wc_X12_cutsOf_99 B4 Q a2 (0 : Int32) a1 z) ∧ (¬ a3 = 0 → wc_X12_cutsOf_99 B4 Q a2 (1 : Int32) a1 z))
theorem ac_X12_cutsOf_89 {K : Nat × (Nat → Int32)} {x : Nat} {Q : tq_O → tq_S → Prop} {B4 : Int32 → Int32 → tq_S → Prop} {a1 : Int32} {a2 : Int32} {a3 : Int32} {z : tq_S} (hB4 : ∀ (b1 : Int32) (b2 : Int32) (z : tq_S), B4 b1 b2 z → tq_T K 0 x mm_X12_cutsOf 4 [.ref 51, .int b1, .int b2, .null, .null] [] z Q) (h : wc_X12_cutsOf_89 B4 Q a1 a2 a3 z) : tq_T K 0 x mm_X12_cutsOf 89 [.ref 51, .int a1, .int a2, .int a3, .null] [] z Q := by
  unfold wc_X12_cutsOf_89 at h
  refine tq_s_iload_n (kk := 1) (by decide +kernel) rfl ?_
  refine tq_s_iload_n (kk := 3) (by decide +kernel) rfl ?_
  refine tq_if_eq (off := 7) (tgt := 98) (by decide +kernel) (by decide +kernel) (fun hc => ?_) (fun hc => ?_)
  · replace h := h.1 hc
    refine tq_k_ic (n := 0) (v := (0 : Int32)) (by decide +kernel) kc_0 ?_
    exact tq_to (tq_lk1 (tq_ld1 (tq_lk1 (tq_ld1 (tq_lk1 tq_l0))))) (ac_X12_cutsOf_99 hB4 h)
  · replace h := h.2 hc
    refine tq_k_ic (n := 1) (v := (1 : Int32)) (by decide +kernel) kc_1 ?_
    refine tq_s_goto (off := 4) (tgt := 99) (by decide +kernel) (by decide +kernel) ?_
    exact tq_to (tq_lk1 (tq_ld1 (tq_lk1 (tq_ld1 (tq_lk1 tq_l0))))) (ac_X12_cutsOf_99 hB4 h)
def wb_X12_cutsOf_34 (B4 : Int32 → Int32 → tq_S → Prop) (B34 : Int32 → Int32 → tq_S → Prop) (Q : tq_O → tq_S → Prop) (a1 : Int32) (a2 : Int32) (a3 : Int32) (a4 : Int32) (z : tq_S) : Prop := (((tq_fi z 3266) ≤ a4 → wc_X12_cutsOf_89 B4 Q a1 a2 a3 z) ∧ (¬ (tq_fi z 3266) ≤ a4 → vp_in (((8 : Int32) * a4) + a2) 64 ∧ (((tq_ai z 52 (Int32.toNatClampNeg (((8 : Int32) * a4) + a2))) = 0 → wc_X12_cutsOf_76 B4 B34 Q a1 a2 a4 a3 z) ∧ (¬ (tq_ai z 52 (Int32.toNatClampNeg (((8 : Int32) * a4) + a2))) = 0 → vp_in (((8 : Int32) * a4) + a2) 64 ∧ (((tq_ai z 56 (Int32.toNatClampNeg (((8 : Int32) * a4) + a2))) = (101 : Int32) → wc_X12_cutsOf_81 B4 B34 Q a1 a2 a4 (0 : Int32) a3 z) ∧ (¬ (tq_ai z 56 (Int32.toNatClampNeg (((8 : Int32) * a4) + a2))) = (101 : Int32) → wc_X12_cutsOf_76 B4 B34 Q a1 a2 a4 a3 z))))))
def wc_X12_cutsOf_34 (B4 : Int32 → Int32 → tq_S → Prop) (Q : tq_O → tq_S → Prop) (a1 : Int32) (a2 : Int32) (a3 : Int32) (a4 : Int32) (z : tq_S) : Prop := tq_lp (σ := Int32 × Int32 × tq_S) (fun B s => wb_X12_cutsOf_34 B4 (fun b3 b4 z => B (b3, b4, z)) Q a1 a2 s.1 s.2.1 s.2.2) (a3, a4, z)
theorem ab_X12_cutsOf_34 {K : Nat × (Nat → Int32)} {x : Nat} {Q : tq_O → tq_S → Prop} {B4 : Int32 → Int32 → tq_S → Prop} {B34 : Int32 → Int32 → tq_S → Prop} {a1 : Int32} {a2 : Int32} {a3 : Int32} {a4 : Int32} {z : tq_S} (hB4 : ∀ (b1 : Int32) (b2 : Int32) (z : tq_S), B4 b1 b2 z → tq_T K 0 x mm_X12_cutsOf 4 [.ref 51, .int b1, .int b2, .null, .null] [] z Q) (hB34 : ∀ (b3 : Int32) (b4 : Int32) (z : tq_S), B34 b3 b4 z → tq_T K 0 x mm_X12_cutsOf 34 [.ref 51, .int a1, .int a2, .int b3, .int b4] [] z Q) (h : wb_X12_cutsOf_34 B4 B34 Q a1 a2 a3 a4 z) : tq_T K 0 x mm_X12_cutsOf 34 [.ref 51, .int a1, .int a2, .int a3, .int a4] [] z Q := by
  unfold wb_X12_cutsOf_34 at h
  refine tq_s_iload (i := 4) (by decide +kernel) rfl ?_
  refine tq_s_aload_n (kk := 0) (by decide +kernel) rfl ?_
  refine fg_12_13_51 rfl (by decide +kernel) ?_
  refine tq_icmp_ge (off := 49) (tgt := 89) (by decide +kernel) (by decide +kernel) (fun hc => ?_) (fun hc => ?_)
  · replace h := h.1 hc
    exact tq_to (tq_lk1 (tq_lk1 (tq_lk1 (tq_lk1 (tq_ld1 tq_l0))))) (ac_X12_cutsOf_89 hB4 h)
  · replace h := h.2 hc
    refine tq_s_iload_n (kk := 3) (by decide +kernel) rfl ?_
    refine tq_s_aload_n (kk := 0) (by decide +kernel) rfl ?_
    refine fg_12_16_51 rfl (by decide +kernel) ?_
    refine tq_k_bi (n := 8) (v := (8 : Int32)) (by decide +kernel) kb_8 ?_
    refine tq_s_iload (i := 4) (by decide +kernel) rfl ?_
    refine tq_s_imul (by decide +kernel) ?_
    refine tq_s_iload_n (kk := 2) (by decide +kernel) rfl ?_
    refine tq_s_iadd (by decide +kernel) ?_
    refine tq_s_zald (by decide +kernel) sh_52 h.1 ?_
    replace h := h.2
    refine tq_if_eq (off := 20) (tgt := 76) (by decide +kernel) (by decide +kernel) (fun hc => ?_) (fun hc => ?_)
    · replace h := h.1 hc
      exact tq_to (tq_lk1 (tq_lk1 (tq_lk1 (tq_ld1 (tq_lk1 tq_l0))))) (ac_X12_cutsOf_76 hB4 hB34 h)
    · replace h := h.2 hc
      refine tq_s_aload_n (kk := 0) (by decide +kernel) rfl ?_
      refine fg_12_30_51 rfl (by decide +kernel) ?_
      refine tq_k_bi (n := 8) (v := (8 : Int32)) (by decide +kernel) kb_8 ?_
      refine tq_s_iload (i := 4) (by decide +kernel) rfl ?_
      refine tq_s_imul (by decide +kernel) ?_
      refine tq_s_iload_n (kk := 2) (by decide +kernel) rfl ?_
      refine tq_s_iadd (by decide +kernel) ?_
      refine tq_s_cald (by decide +kernel) sh_56 h.1 ?_
      replace h := h.2
      refine tq_k_bi (n := 101) (v := (101 : Int32)) (by decide +kernel) kb_101 ?_
      refine tq_icmp_eq (off := 7) (tgt := 80) (by decide +kernel) (by decide +kernel) (fun hc => ?_) (fun hc => ?_)
      · replace h := h.1 hc
        refine tq_k_ic (n := 0) (v := (0 : Int32)) (by decide +kernel) kc_0 ?_
        exact tq_to (tq_lk1 (tq_lk1 (tq_lk1 (tq_ld1 (tq_lk1 tq_l0))))) (ac_X12_cutsOf_81 hB4 hB34 h)
      · replace h := h.2 hc
        exact tq_to (tq_lk1 (tq_lk1 (tq_lk1 (tq_ld1 (tq_lk1 tq_l0))))) (ac_X12_cutsOf_76 hB4 hB34 h)
theorem ac_X12_cutsOf_34 {K : Nat × (Nat → Int32)} {x : Nat} {Q : tq_O → tq_S → Prop} {B4 : Int32 → Int32 → tq_S → Prop} {a1 : Int32} {a2 : Int32} {a3 : Int32} {a4 : Int32} {z : tq_S} (hB4 : ∀ (b1 : Int32) (b2 : Int32) (z : tq_S), B4 b1 b2 z → tq_T K 0 x mm_X12_cutsOf 4 [.ref 51, .int b1, .int b2, .null, .null] [] z Q) (h : wc_X12_cutsOf_34 B4 Q a1 a2 a3 a4 z) : tq_T K 0 x mm_X12_cutsOf 34 [.ref 51, .int a1, .int a2, .int a3, .int a4] [] z Q :=
  tq_lp_T (σ := Int32 × Int32 × tq_S) (s := (a3, a4, z)) (G := fun s => tq_T K 0 x mm_X12_cutsOf 34 [.ref 51, .int a1, .int a2, .int s.1, .int s.2.1] [] s.2.2 Q) (fun B hB s h => ab_X12_cutsOf_34 hB4 (fun b3 b4 z h => hB (b3, b4, z) h) h) h
def wc_X12_cutsOf_29 (B4 : Int32 → Int32 → tq_S → Prop) (Q : tq_O → tq_S → Prop) (a1 : Int32) (a2 : Int32) (z : tq_S) : Prop := wc_X12_cutsOf_34 B4 Q a1 a2 (1 : Int32) (0 : Int32) z
theorem ac_X12_cutsOf_29 {K : Nat × (Nat → Int32)} {x : Nat} {Q : tq_O → tq_S → Prop} {B4 : Int32 → Int32 → tq_S → Prop} {a1 : Int32} {a2 : Int32} {z : tq_S} (hB4 : ∀ (b1 : Int32) (b2 : Int32) (z : tq_S), B4 b1 b2 z → tq_T K 0 x mm_X12_cutsOf 4 [.ref 51, .int b1, .int b2, .null, .null] [] z Q) (h : wc_X12_cutsOf_29 B4 Q a1 a2 z) : tq_T K 0 x mm_X12_cutsOf 29 [.ref 51, .int a1, .int a2, .null, .null] [] z Q := by
  unfold wc_X12_cutsOf_29 at h
  refine tq_k_ic (n := 1) (v := (1 : Int32)) (by decide +kernel) kc_1 ?_
  refine tq_s_istore_n (kk := 3) (L9 := [.ref 51, .int a1, .int a2, .int (1 : Int32), .null]) (by decide +kernel) (by decide) rfl ?_
  refine tq_k_ic (n := 0) (v := (0 : Int32)) (by decide +kernel) kc_0 ?_
  refine tq_s_istore (i := 4) (L9 := [.ref 51, .int a1, .int a2, .int (1 : Int32), .int (0 : Int32)]) (by decide +kernel) (by decide) rfl ?_
  exact ac_X12_cutsOf_34 hB4 h
def wc_X12_cutsOf_171 (B109 : Int32 → Int32 → tq_S → Prop) (B124 : Int32 → Int32 → tq_S → Prop) (Q : tq_O → tq_S → Prop) (a1 : Int32) (a2 : Int32) (a4 : Int32) (s0 : Int32) (s1 : Int32) (z : tq_S) : Prop := ∀ v101 : Int32, v101 = (s1 &&& s0) → ∀ v102 : Int32, v102 = a4 + (1 : Int32) → B124 v101 v102 z
theorem ac_X12_cutsOf_171 {K : Nat × (Nat → Int32)} {x : Nat} {Q : tq_O → tq_S → Prop} {B109 : Int32 → Int32 → tq_S → Prop} {B124 : Int32 → Int32 → tq_S → Prop} {a1 : Int32} {a2 : Int32} {a4 : Int32} {s0 : Int32} {s1 : Int32} {z : tq_S} (hB109 : ∀ (b1 : Int32) (b2 : Int32) (z : tq_S), B109 b1 b2 z → tq_T K 0 x mm_X12_cutsOf 109 [.ref 51, .int b1, .int b2, .null, .null] [] z Q) (hB124 : ∀ (b3 : Int32) (b4 : Int32) (z : tq_S), B124 b3 b4 z → tq_T K 0 x mm_X12_cutsOf 124 [.ref 51, .int a1, .int a2, .int b3, .int b4] [] z Q) (h : wc_X12_cutsOf_171 B109 B124 Q a1 a2 a4 s0 s1 z) : tq_T K 0 x mm_X12_cutsOf 171 [.ref 51, .int a1, .int a2, .null, .int a4] [.int s0, .int s1] z Q := by
  unfold wc_X12_cutsOf_171 at h
  refine tq_s_iand (by decide +kernel) ?_
  refine tq_g_istore_n (kk := 3) (fun v101 => [.ref 51, .int a1, .int a2, .int v101, .int a4]) (by decide +kernel) (by decide) (fun _ => rfl) (fun v101 ev101 => ?_)
  replace h := h v101 ev101
  refine tq_g_iinc (i := 4) (fun v102 => [.ref 51, .int a1, .int a2, .int v101, .int v102]) (by decide +kernel) rfl (1 : Int32) kc_1 (fun _ => rfl) (fun v102 ev102 => ?_)
  replace h := h v102 ev102
  refine tq_s_goto (off := -52) (tgt := 124) (by decide +kernel) (by decide +kernel) ?_
  exact hB124 _ _ _ h
def wc_X12_cutsOf_166 (B109 : Int32 → Int32 → tq_S → Prop) (B124 : Int32 → Int32 → tq_S → Prop) (Q : tq_O → tq_S → Prop) (a1 : Int32) (a2 : Int32) (a4 : Int32) (s0 : Int32) (z : tq_S) : Prop := wc_X12_cutsOf_171 B109 B124 Q a1 a2 a4 (1 : Int32) s0 z
theorem ac_X12_cutsOf_166 {K : Nat × (Nat → Int32)} {x : Nat} {Q : tq_O → tq_S → Prop} {B109 : Int32 → Int32 → tq_S → Prop} {B124 : Int32 → Int32 → tq_S → Prop} {a1 : Int32} {a2 : Int32} {a4 : Int32} {s0 : Int32} {z : tq_S} (hB109 : ∀ (b1 : Int32) (b2 : Int32) (z : tq_S), B109 b1 b2 z → tq_T K 0 x mm_X12_cutsOf 109 [.ref 51, .int b1, .int b2, .null, .null] [] z Q) (hB124 : ∀ (b3 : Int32) (b4 : Int32) (z : tq_S), B124 b3 b4 z → tq_T K 0 x mm_X12_cutsOf 124 [.ref 51, .int a1, .int a2, .int b3, .int b4] [] z Q) (h : wc_X12_cutsOf_166 B109 B124 Q a1 a2 a4 s0 z) : tq_T K 0 x mm_X12_cutsOf 166 [.ref 51, .int a1, .int a2, .null, .int a4] [.int s0] z Q := by
  unfold wc_X12_cutsOf_166 at h
  refine tq_k_ic (n := 1) (v := (1 : Int32)) (by decide +kernel) kc_1 ?_
  refine tq_s_goto (off := 4) (tgt := 171) (by decide +kernel) (by decide +kernel) ?_
  exact ac_X12_cutsOf_171 hB109 hB124 h
def wc_X12_cutsOf_189 (B109 : Int32 → Int32 → tq_S → Prop) (Q : tq_O → tq_S → Prop) (a2 : Int32) (s0 : Int32) (s1 : Int32) (z : tq_S) : Prop := ∀ v101 : Int32, v101 = (s1 + s0) → ∀ v102 : Int32, v102 = a2 + (1 : Int32) → B109 v101 v102 z
theorem ac_X12_cutsOf_189 {K : Nat × (Nat → Int32)} {x : Nat} {Q : tq_O → tq_S → Prop} {B109 : Int32 → Int32 → tq_S → Prop} {a2 : Int32} {s0 : Int32} {s1 : Int32} {z : tq_S} (hB109 : ∀ (b1 : Int32) (b2 : Int32) (z : tq_S), B109 b1 b2 z → tq_T K 0 x mm_X12_cutsOf 109 [.ref 51, .int b1, .int b2, .null, .null] [] z Q) (h : wc_X12_cutsOf_189 B109 Q a2 s0 s1 z) : tq_T K 0 x mm_X12_cutsOf 189 [.ref 51, .null, .int a2, .null, .null] [.int s0, .int s1] z Q := by
  unfold wc_X12_cutsOf_189 at h
  refine tq_s_iadd (by decide +kernel) ?_
  refine tq_g_istore_n (kk := 1) (fun v101 => [.ref 51, .int v101, .int a2, .null, .null]) (by decide +kernel) (by decide) (fun _ => rfl) (fun v101 ev101 => ?_)
  replace h := h v101 ev101
  refine tq_g_iinc (i := 2) (fun v102 => [.ref 51, .int v101, .int v102, .null, .null]) (by decide +kernel) rfl (1 : Int32) kc_1 (fun _ => rfl) (fun v102 ev102 => ?_)
  replace h := h v102 ev102
  refine tq_s_goto (off := -85) (tgt := 109) (by decide +kernel) (by decide +kernel) ?_
  exact hB109 _ _ _ h
def wc_X12_cutsOf_179 (B109 : Int32 → Int32 → tq_S → Prop) (Q : tq_O → tq_S → Prop) (a1 : Int32) (a2 : Int32) (a3 : Int32) (z : tq_S) : Prop := ((a3 = 0 → wc_X12_cutsOf_189 B109 Q a2 (0 : Int32) a1 z) ∧ (¬ a3 = 0 → wc_X12_cutsOf_189 B109 Q a2 (1 : Int32) a1 z))
theorem ac_X12_cutsOf_179 {K : Nat × (Nat → Int32)} {x : Nat} {Q : tq_O → tq_S → Prop} {B109 : Int32 → Int32 → tq_S → Prop} {a1 : Int32} {a2 : Int32} {a3 : Int32} {z : tq_S} (hB109 : ∀ (b1 : Int32) (b2 : Int32) (z : tq_S), B109 b1 b2 z → tq_T K 0 x mm_X12_cutsOf 109 [.ref 51, .int b1, .int b2, .null, .null] [] z Q) (h : wc_X12_cutsOf_179 B109 Q a1 a2 a3 z) : tq_T K 0 x mm_X12_cutsOf 179 [.ref 51, .int a1, .int a2, .int a3, .null] [] z Q := by
  unfold wc_X12_cutsOf_179 at h
  refine tq_s_iload_n (kk := 1) (by decide +kernel) rfl ?_
  refine tq_s_iload_n (kk := 3) (by decide +kernel) rfl ?_
  refine tq_if_eq (off := 7) (tgt := 188) (by decide +kernel) (by decide +kernel) (fun hc => ?_) (fun hc => ?_)
  · replace h := h.1 hc
    refine tq_k_ic (n := 0) (v := (0 : Int32)) (by decide +kernel) kc_0 ?_
    exact tq_to (tq_lk1 (tq_ld1 (tq_lk1 (tq_ld1 (tq_lk1 tq_l0))))) (ac_X12_cutsOf_189 hB109 h)
  · replace h := h.2 hc
    refine tq_k_ic (n := 1) (v := (1 : Int32)) (by decide +kernel) kc_1 ?_
    refine tq_s_goto (off := 4) (tgt := 189) (by decide +kernel) (by decide +kernel) ?_
    exact tq_to (tq_lk1 (tq_ld1 (tq_lk1 (tq_ld1 (tq_lk1 tq_l0))))) (ac_X12_cutsOf_189 hB109 h)
def wb_X12_cutsOf_124 (B109 : Int32 → Int32 → tq_S → Prop) (B124 : Int32 → Int32 → tq_S → Prop) (Q : tq_O → tq_S → Prop) (a1 : Int32) (a2 : Int32) (a3 : Int32) (a4 : Int32) (z : tq_S) : Prop := (((tq_fi z 3265) ≤ a4 → wc_X12_cutsOf_179 B109 Q a1 a2 a3 z) ∧ (¬ (tq_fi z 3265) ≤ a4 → vp_in (((8 : Int32) * a2) + a4) 64 ∧ (((tq_ai z 52 (Int32.toNatClampNeg (((8 : Int32) * a2) + a4))) = 0 → wc_X12_cutsOf_166 B109 B124 Q a1 a2 a4 a3 z) ∧ (¬ (tq_ai z 52 (Int32.toNatClampNeg (((8 : Int32) * a2) + a4))) = 0 → vp_in (((8 : Int32) * a2) + a4) 64 ∧ (((tq_ai z 56 (Int32.toNatClampNeg (((8 : Int32) * a2) + a4))) = (115 : Int32) → wc_X12_cutsOf_171 B109 B124 Q a1 a2 a4 (0 : Int32) a3 z) ∧ (¬ (tq_ai z 56 (Int32.toNatClampNeg (((8 : Int32) * a2) + a4))) = (115 : Int32) → wc_X12_cutsOf_166 B109 B124 Q a1 a2 a4 a3 z))))))
def wc_X12_cutsOf_124 (B109 : Int32 → Int32 → tq_S → Prop) (Q : tq_O → tq_S → Prop) (a1 : Int32) (a2 : Int32) (a3 : Int32) (a4 : Int32) (z : tq_S) : Prop := tq_lp (σ := Int32 × Int32 × tq_S) (fun B s => wb_X12_cutsOf_124 B109 (fun b3 b4 z => B (b3, b4, z)) Q a1 a2 s.1 s.2.1 s.2.2) (a3, a4, z)
theorem ab_X12_cutsOf_124 {K : Nat × (Nat → Int32)} {x : Nat} {Q : tq_O → tq_S → Prop} {B109 : Int32 → Int32 → tq_S → Prop} {B124 : Int32 → Int32 → tq_S → Prop} {a1 : Int32} {a2 : Int32} {a3 : Int32} {a4 : Int32} {z : tq_S} (hB109 : ∀ (b1 : Int32) (b2 : Int32) (z : tq_S), B109 b1 b2 z → tq_T K 0 x mm_X12_cutsOf 109 [.ref 51, .int b1, .int b2, .null, .null] [] z Q) (hB124 : ∀ (b3 : Int32) (b4 : Int32) (z : tq_S), B124 b3 b4 z → tq_T K 0 x mm_X12_cutsOf 124 [.ref 51, .int a1, .int a2, .int b3, .int b4] [] z Q) (h : wb_X12_cutsOf_124 B109 B124 Q a1 a2 a3 a4 z) : tq_T K 0 x mm_X12_cutsOf 124 [.ref 51, .int a1, .int a2, .int a3, .int a4] [] z Q := by
  unfold wb_X12_cutsOf_124 at h
  refine tq_s_iload (i := 4) (by decide +kernel) rfl ?_
  refine tq_s_aload_n (kk := 0) (by decide +kernel) rfl ?_
  refine fg_12_7_51 rfl (by decide +kernel) ?_
  refine tq_icmp_ge (off := 49) (tgt := 179) (by decide +kernel) (by decide +kernel) (fun hc => ?_) (fun hc => ?_)
  · replace h := h.1 hc
    exact tq_to (tq_lk1 (tq_lk1 (tq_lk1 (tq_lk1 (tq_ld1 tq_l0))))) (ac_X12_cutsOf_179 hB109 h)
  · replace h := h.2 hc
    refine tq_s_iload_n (kk := 3) (by decide +kernel) rfl ?_
    refine tq_s_aload_n (kk := 0) (by decide +kernel) rfl ?_
    refine fg_12_16_51 rfl (by decide +kernel) ?_
    refine tq_k_bi (n := 8) (v := (8 : Int32)) (by decide +kernel) kb_8 ?_
    refine tq_s_iload_n (kk := 2) (by decide +kernel) rfl ?_
    refine tq_s_imul (by decide +kernel) ?_
    refine tq_s_iload (i := 4) (by decide +kernel) rfl ?_
    refine tq_s_iadd (by decide +kernel) ?_
    refine tq_s_zald (by decide +kernel) sh_52 h.1 ?_
    replace h := h.2
    refine tq_if_eq (off := 20) (tgt := 166) (by decide +kernel) (by decide +kernel) (fun hc => ?_) (fun hc => ?_)
    · replace h := h.1 hc
      exact tq_to (tq_lk1 (tq_lk1 (tq_lk1 (tq_ld1 (tq_lk1 tq_l0))))) (ac_X12_cutsOf_166 hB109 hB124 h)
    · replace h := h.2 hc
      refine tq_s_aload_n (kk := 0) (by decide +kernel) rfl ?_
      refine fg_12_30_51 rfl (by decide +kernel) ?_
      refine tq_k_bi (n := 8) (v := (8 : Int32)) (by decide +kernel) kb_8 ?_
      refine tq_s_iload_n (kk := 2) (by decide +kernel) rfl ?_
      refine tq_s_imul (by decide +kernel) ?_
      refine tq_s_iload (i := 4) (by decide +kernel) rfl ?_
      refine tq_s_iadd (by decide +kernel) ?_
      refine tq_s_cald (by decide +kernel) sh_56 h.1 ?_
      replace h := h.2
      refine tq_k_bi (n := 115) (v := (115 : Int32)) (by decide +kernel) kb_115 ?_
      refine tq_icmp_eq (off := 7) (tgt := 170) (by decide +kernel) (by decide +kernel) (fun hc => ?_) (fun hc => ?_)
      · replace h := h.1 hc
        refine tq_k_ic (n := 0) (v := (0 : Int32)) (by decide +kernel) kc_0 ?_
        exact tq_to (tq_lk1 (tq_lk1 (tq_lk1 (tq_ld1 (tq_lk1 tq_l0))))) (ac_X12_cutsOf_171 hB109 hB124 h)
      · replace h := h.2 hc
        exact tq_to (tq_lk1 (tq_lk1 (tq_lk1 (tq_ld1 (tq_lk1 tq_l0))))) (ac_X12_cutsOf_166 hB109 hB124 h)
theorem ac_X12_cutsOf_124 {K : Nat × (Nat → Int32)} {x : Nat} {Q : tq_O → tq_S → Prop} {B109 : Int32 → Int32 → tq_S → Prop} {a1 : Int32} {a2 : Int32} {a3 : Int32} {a4 : Int32} {z : tq_S} (hB109 : ∀ (b1 : Int32) (b2 : Int32) (z : tq_S), B109 b1 b2 z → tq_T K 0 x mm_X12_cutsOf 109 [.ref 51, .int b1, .int b2, .null, .null] [] z Q) (h : wc_X12_cutsOf_124 B109 Q a1 a2 a3 a4 z) : tq_T K 0 x mm_X12_cutsOf 124 [.ref 51, .int a1, .int a2, .int a3, .int a4] [] z Q :=
  tq_lp_T (σ := Int32 × Int32 × tq_S) (s := (a3, a4, z)) (G := fun s => tq_T K 0 x mm_X12_cutsOf 124 [.ref 51, .int a1, .int a2, .int s.1, .int s.2.1] [] s.2.2 Q) (fun B hB s h => ab_X12_cutsOf_124 hB109 (fun b3 b4 z h => hB (b3, b4, z) h) h) h
def wb_X12_cutsOf_109 (B109 : Int32 → Int32 → tq_S → Prop) (Q : tq_O → tq_S → Prop) (a1 : Int32) (a2 : Int32) (z : tq_S) : Prop := (((tq_fi z 3266) ≤ (a2 + (1 : Int32)) → Q (.inl (some (.int a1))) z) ∧ (¬ (tq_fi z 3266) ≤ (a2 + (1 : Int32)) → wc_X12_cutsOf_124 B109 Q a1 a2 (1 : Int32) (0 : Int32) z))
def wc_X12_cutsOf_109 (Q : tq_O → tq_S → Prop) (a1 : Int32) (a2 : Int32) (z : tq_S) : Prop := tq_lp (σ := Int32 × Int32 × tq_S) (fun B s => wb_X12_cutsOf_109 (fun b1 b2 z => B (b1, b2, z)) Q s.1 s.2.1 s.2.2) (a1, a2, z)
theorem ab_X12_cutsOf_109 {K : Nat × (Nat → Int32)} {x : Nat} {Q : tq_O → tq_S → Prop} {B109 : Int32 → Int32 → tq_S → Prop} {a1 : Int32} {a2 : Int32} {z : tq_S} (hB109 : ∀ (b1 : Int32) (b2 : Int32) (z : tq_S), B109 b1 b2 z → tq_T K 0 x mm_X12_cutsOf 109 [.ref 51, .int b1, .int b2, .null, .null] [] z Q) (h : wb_X12_cutsOf_109 B109 Q a1 a2 z) : tq_T K 0 x mm_X12_cutsOf 109 [.ref 51, .int a1, .int a2, .null, .null] [] z Q := by
  unfold wb_X12_cutsOf_109 at h
  refine tq_s_iload_n (kk := 2) (by decide +kernel) rfl ?_
  refine tq_k_ic (n := 1) (v := (1 : Int32)) (by decide +kernel) kc_1 ?_
  refine tq_s_iadd (by decide +kernel) ?_
  refine tq_s_aload_n (kk := 0) (by decide +kernel) rfl ?_
  refine fg_12_13_51 rfl (by decide +kernel) ?_
  refine tq_icmp_ge (off := 81) (tgt := 197) (by decide +kernel) (by decide +kernel) (fun hc => ?_) (fun hc => ?_)
  · replace h := h.1 hc
    refine tq_s_iload_n (kk := 1) (by decide +kernel) rfl ?_
    exact tq_ret_i (st := []) (by decide +kernel) rfl h
  · replace h := h.2 hc
    refine tq_k_ic (n := 1) (v := (1 : Int32)) (by decide +kernel) kc_1 ?_
    refine tq_s_istore_n (kk := 3) (L9 := [.ref 51, .int a1, .int a2, .int (1 : Int32), .null]) (by decide +kernel) (by decide) rfl ?_
    refine tq_k_ic (n := 0) (v := (0 : Int32)) (by decide +kernel) kc_0 ?_
    refine tq_s_istore (i := 4) (L9 := [.ref 51, .int a1, .int a2, .int (1 : Int32), .int (0 : Int32)]) (by decide +kernel) (by decide) rfl ?_
    exact ac_X12_cutsOf_124 hB109 h
theorem ac_X12_cutsOf_109 {K : Nat × (Nat → Int32)} {x : Nat} {Q : tq_O → tq_S → Prop} {a1 : Int32} {a2 : Int32} {z : tq_S} (h : wc_X12_cutsOf_109 Q a1 a2 z) : tq_T K 0 x mm_X12_cutsOf 109 [.ref 51, .int a1, .int a2, .null, .null] [] z Q :=
  tq_lp_T (σ := Int32 × Int32 × tq_S) (s := (a1, a2, z)) (G := fun s => tq_T K 0 x mm_X12_cutsOf 109 [.ref 51, .int s.1, .int s.2.1, .null, .null] [] s.2.2 Q) (fun B hB s h => ab_X12_cutsOf_109 (fun b1 b2 z h => hB (b1, b2, z) h) h) h
def wc_X12_cutsOf_107 (Q : tq_O → tq_S → Prop) (a1 : Int32) (z : tq_S) : Prop := wc_X12_cutsOf_109 Q a1 (0 : Int32) z
theorem ac_X12_cutsOf_107 {K : Nat × (Nat → Int32)} {x : Nat} {Q : tq_O → tq_S → Prop} {a1 : Int32} {z : tq_S} (h : wc_X12_cutsOf_107 Q a1 z) : tq_T K 0 x mm_X12_cutsOf 107 [.ref 51, .int a1, .null, .null, .null] [] z Q := by
  unfold wc_X12_cutsOf_107 at h
  refine tq_k_ic (n := 0) (v := (0 : Int32)) (by decide +kernel) kc_0 ?_
  refine tq_s_istore_n (kk := 2) (L9 := [.ref 51, .int a1, .int (0 : Int32), .null, .null]) (by decide +kernel) (by decide) rfl ?_
  exact ac_X12_cutsOf_109 h
def wb_X12_cutsOf_4 (B4 : Int32 → Int32 → tq_S → Prop) (Q : tq_O → tq_S → Prop) (a1 : Int32) (a2 : Int32) (z : tq_S) : Prop := (((a2 + (1 : Int32)) < (tq_fi z 3265) → wc_X12_cutsOf_29 B4 Q a1 a2 z) ∧ (¬ (a2 + (1 : Int32)) < (tq_fi z 3265) → (((tq_fi z 3267) = 0 → wc_X12_cutsOf_107 Q a1 z) ∧ (¬ (tq_fi z 3267) = 0 → (((tq_fi z 3265) ≤ a2 → wc_X12_cutsOf_107 Q a1 z) ∧ (¬ (tq_fi z 3265) ≤ a2 → wc_X12_cutsOf_29 B4 Q a1 a2 z))))))
def wc_X12_cutsOf_4 (Q : tq_O → tq_S → Prop) (a1 : Int32) (a2 : Int32) (z : tq_S) : Prop := tq_lp (σ := Int32 × Int32 × tq_S) (fun B s => wb_X12_cutsOf_4 (fun b1 b2 z => B (b1, b2, z)) Q s.1 s.2.1 s.2.2) (a1, a2, z)
theorem ab_X12_cutsOf_4 {K : Nat × (Nat → Int32)} {x : Nat} {Q : tq_O → tq_S → Prop} {B4 : Int32 → Int32 → tq_S → Prop} {a1 : Int32} {a2 : Int32} {z : tq_S} (hB4 : ∀ (b1 : Int32) (b2 : Int32) (z : tq_S), B4 b1 b2 z → tq_T K 0 x mm_X12_cutsOf 4 [.ref 51, .int b1, .int b2, .null, .null] [] z Q) (h : wb_X12_cutsOf_4 B4 Q a1 a2 z) : tq_T K 0 x mm_X12_cutsOf 4 [.ref 51, .int a1, .int a2, .null, .null] [] z Q := by
  unfold wb_X12_cutsOf_4 at h
  refine tq_s_iload_n (kk := 2) (by decide +kernel) rfl ?_
  refine tq_k_ic (n := 1) (v := (1 : Int32)) (by decide +kernel) kc_1 ?_
  refine tq_s_iadd (by decide +kernel) ?_
  refine tq_s_aload_n (kk := 0) (by decide +kernel) rfl ?_
  refine fg_12_7_51 rfl (by decide +kernel) ?_
  refine tq_icmp_lt (off := 18) (tgt := 29) (by decide +kernel) (by decide +kernel) (fun hc => ?_) (fun hc => ?_)
  · replace h := h.1 hc
    exact ac_X12_cutsOf_29 hB4 h
  · replace h := h.2 hc
    refine tq_s_aload_n (kk := 0) (by decide +kernel) rfl ?_
    refine fg_12_142_51 rfl (by decide +kernel) ?_
    refine tq_if_eq (off := 89) (tgt := 107) (by decide +kernel) (by decide +kernel) (fun hc => ?_) (fun hc => ?_)
    · replace h := h.1 hc
      exact tq_to (tq_lk1 (tq_lk1 (tq_ld1 (tq_lk1 (tq_lk1 tq_l0))))) (ac_X12_cutsOf_107 h)
    · replace h := h.2 hc
      refine tq_s_iload_n (kk := 2) (by decide +kernel) rfl ?_
      refine tq_s_aload_n (kk := 0) (by decide +kernel) rfl ?_
      refine fg_12_7_51 rfl (by decide +kernel) ?_
      refine tq_icmp_ge (off := 81) (tgt := 107) (by decide +kernel) (by decide +kernel) (fun hc => ?_) (fun hc => ?_)
      · replace h := h.1 hc
        exact tq_to (tq_lk1 (tq_lk1 (tq_ld1 (tq_lk1 (tq_lk1 tq_l0))))) (ac_X12_cutsOf_107 h)
      · replace h := h.2 hc
        exact ac_X12_cutsOf_29 hB4 h
theorem ac_X12_cutsOf_4 {K : Nat × (Nat → Int32)} {x : Nat} {Q : tq_O → tq_S → Prop} {a1 : Int32} {a2 : Int32} {z : tq_S} (h : wc_X12_cutsOf_4 Q a1 a2 z) : tq_T K 0 x mm_X12_cutsOf 4 [.ref 51, .int a1, .int a2, .null, .null] [] z Q :=
  tq_lp_T (σ := Int32 × Int32 × tq_S) (s := (a1, a2, z)) (G := fun s => tq_T K 0 x mm_X12_cutsOf 4 [.ref 51, .int s.1, .int s.2.1, .null, .null] [] s.2.2 Q) (fun B hB s h => ab_X12_cutsOf_4 (fun b1 b2 z h => hB (b1, b2, z) h) h) h
def wm_X12_cutsOf  (z : tq_S) (Q : tq_O → tq_S → Prop) : Prop := wc_X12_cutsOf_4 Q (0 : Int32) (0 : Int32) z
theorem am_X12_cutsOf {K : Nat × (Nat → Int32)} {x : Nat} {z : tq_S} {Q : tq_O → tq_S → Prop}  (h : wm_X12_cutsOf z Q) : tq_M K 0 x mm_X12_cutsOf [.ref 51] z Q := by
  unfold wm_X12_cutsOf at h
  refine tq_enter (L := [.ref 51, .null, .null, .null, .null]) mf_X12_cutsOf.1 rfl rfl (Nat.le_of_ble_eq_true rfl) ?_
  refine tq_k_ic (n := 0) (v := (0 : Int32)) (by decide +kernel) kc_0 ?_
  refine tq_s_istore_n (kk := 1) (L9 := [.ref 51, .int (0 : Int32), .null, .null, .null]) (by decide +kernel) (by decide) rfl ?_
  refine tq_k_ic (n := 0) (v := (0 : Int32)) (by decide +kernel) kc_0 ?_
  refine tq_s_istore_n (kk := 2) (L9 := [.ref 51, .int (0 : Int32), .int (0 : Int32), .null, .null]) (by decide +kernel) (by decide) rfl ?_
  exact ac_X12_cutsOf_4 h
