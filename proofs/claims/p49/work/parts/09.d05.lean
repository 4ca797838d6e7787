def wc_X4_refresh_156 (B96 : Int32 → tq_S → Prop) (Q : tq_O → tq_S → Prop) (a1 : Int32) (s0 : Int64) (s1 : Int32) (z : tq_S) : Prop := vp_in s1 288 ∧ ∀ z101 : tq_S, z101 = tq_sal z 36 (vp_updL (tq_al z 36) (Int32.toNatClampNeg s1) s0) → vp_in a1 288 ∧ ∀ z102 : tq_S, z102 = tq_sfl z101 1809 ((tq_fl z101 1809) + (tq_al z101 36 (Int32.toNatClampNeg a1))) → ∀ v103 : Int32, v103 = a1 + (1 : Int32) → B96 v103 z102
theorem ac_X4_refresh_156 {K : Nat × (Nat → Int32)} {x : Nat} {Q : tq_O → tq_S → Prop} {B96 : Int32 → tq_S → Prop} {a1 : Int32} {s0 : Int64} {s1 : Int32} {z : tq_S} (hB96 : ∀ (b1 : Int32) (z : tq_S), B96 b1 z → tq_T K 89 x mm_X4_refresh 96 [.ref 28, .int b1, .null, .null] [] z Q) (h : wc_X4_refresh_156 B96 Q a1 s0 s1 z) : tq_T K 89 x mm_X4_refresh 156 [.ref 28, .int a1, .null, .null] [.long s0, .int s1, .ref 36] z Q := by
  unfold wc_X4_refresh_156 at h
  refine tq_g_last (by decide +kernel) sh_36 h.1 (fun z101 ez101 => ?_)
  replace h := h.2 z101 ez101
  refine tq_s_aload_n (kk := 0) (by decide +kernel) rfl ?_
  refine tq_s_dup (by decide +kernel) rfl ?_
  refine fg_4_87_28 rfl (by decide +kernel) ?_
  refine tq_s_aload_n (kk := 0) (by decide +kernel) rfl ?_
  refine fg_4_46_28 rfl (by decide +kernel) ?_
  refine tq_s_iload_n (kk := 1) (by decide +kernel) rfl ?_
  refine tq_s_lald (by decide +kernel) sh_36 h.1 ?_
  replace h := h.2
  refine tq_s_ladd (by decide +kernel) ?_
  refine fp_4_87_28 rfl (by decide +kernel) (fun z102 ez102 => ?_)
  replace h := h z102 ez102
  refine tq_g_iinc (i := 1) (fun v103 => [.ref 28, .int v103, .null, .null]) (by decide +kernel) rfl (1 : Int32) kc_1 (fun _ => rfl) (fun v103 ev103 => ?_)
  replace h := h v103 ev103
  refine tq_s_goto (off := -79) (tgt := 96) (by decide +kernel) (by decide +kernel) ?_
  exact hB96 _ _ h
def wb_X4_refresh_96 (B96 : Int32 → tq_S → Prop) (Q : tq_O → tq_S → Prop) (a1 : Int32) (z : tq_S) : Prop := wm_J9_min_7cf53 (1 : Int32) (tq_fi z 1804) z (tq_wi fun r102 z101 => vp_in r102 25 ∧ (((tq_ai z101 30 (Int32.toNatClampNeg r102)) ≤ a1 → Q (.inl none) z101) ∧ (¬ (tq_ai z101 30 (Int32.toNatClampNeg r102)) ≤ a1 → (((288 : Int32) ≤ a1 → Q (.inl none) z101) ∧ (¬ (288 : Int32) ≤ a1 → wm_X4_beginning z101 (tq_wl fun r104 z103 => vp_in a1 1152 ∧ wm_X4_with r104 (tq_al z103 29 (Int32.toNatClampNeg a1)) z103 (tq_wl fun r106 z105 => (((0 : Int64) ≤ r106 → wm_X4_search 40 r106 (1 : Int32) z105 (tq_wl fun r108 z107 => wc_X4_refresh_156 B96 Q a1 r108 a1 z107)) ∧ (¬ (0 : Int64) ≤ r106 → wc_X4_refresh_156 B96 Q a1 (0 : Int64) a1 z105)))))))))
def wc_X4_refresh_96 (Q : tq_O → tq_S → Prop) (a1 : Int32) (z : tq_S) : Prop := tq_lp (σ := Int32 × tq_S) (fun B s => wb_X4_refresh_96 (fun b1 z => B (b1, z)) Q s.1 s.2) (a1, z)
theorem ab_X4_refresh_96 {K : Nat × (Nat → Int32)} {x : Nat} {Q : tq_O → tq_S → Prop} {B96 : Int32 → tq_S → Prop} {a1 : Int32} {z : tq_S} (hB96 : ∀ (b1 : Int32) (z : tq_S), B96 b1 z → tq_T K 89 x mm_X4_refresh 96 [.ref 28, .int b1, .null, .null] [] z Q) (h : wb_X4_refresh_96 B96 Q a1 z) : tq_T K 89 x mm_X4_refresh 96 [.ref 28, .int a1, .null, .null] [] z Q := by
  unfold wb_X4_refresh_96 at h
  refine tq_s_iload_n (kk := 1) (by decide +kernel) rfl ?_
  refine tq_s_aload_n (kk := 0) (by decide +kernel) rfl ?_
  refine fg_4_23_28 rfl (by decide +kernel) ?_
  refine tq_k_ic (n := 1) (v := (1 : Int32)) (by decide +kernel) kc_1 ?_
  refine tq_s_aload_n (kk := 0) (by decide +kernel) rfl ?_
  refine fg_4_84_28 rfl (by decide +kernel) ?_
  refine tq_callS (as := [.int (1 : Int32), .int (tq_fi z 1804)]) (st := [.ref 30, .int a1]) (d1 := 0) (x1 := 0) (x2 := x) (by decide +kernel) ln_4_90 mf_J9_min_7cf53 rfl (by decide) np_J9_min_7cf53 rfl (Nat.le_of_ble_eq_true rfl) (by decide) (Nat.zero_add _).symm (tq_M_mono (am_J9_min_7cf53 h) ?_)
  refine tq_wi_e (fun r102 z101 h => ?_)
  refine tq_s_iald (by decide +kernel) sh_30 h.1 ?_
  replace h := h.2
  refine tq_icmp_ge (off := 68) (tgt := 178) (by decide +kernel) (by decide +kernel) (fun hc => ?_) (fun hc => ?_)
  · replace h := h.1 hc
    exact tq_ret_v (st := []) (by decide +kernel) rfl h
  · replace h := h.2 hc
    refine tq_s_iload_n (kk := 1) (by decide +kernel) rfl ?_
    refine tq_k_si (n := 288) (v := (288 : Int32)) (by decide +kernel) ks_288 ?_
    refine tq_icmp_ge (off := 61) (tgt := 178) (by decide +kernel) (by decide +kernel) (fun hc => ?_) (fun hc => ?_)
    · replace h := h.1 hc
      exact tq_ret_v (st := []) (by decide +kernel) rfl h
    · replace h := h.2 hc
      refine tq_s_aload_n (kk := 0) (by decide +kernel) rfl ?_
      refine tq_s_aload_n (kk := 0) (by decide +kernel) rfl ?_
      refine tq_callV (as := []) (st := [.ref 28]) (d1 := 2) (x1 := 0) (x2 := x) (by decide +kernel) ln_4_96 mf_X4_beginning rfl sh_28 rfl (by decide) np_X4_beginning rfl (Nat.le_of_ble_eq_true rfl) (by decide) (Nat.zero_add _).symm (tq_M_mono (am_X4_beginning h) ?_)
      refine tq_wl_e (fun r104 z103 h => ?_)
      refine tq_s_aload_n (kk := 0) (by decide +kernel) rfl ?_
      refine fg_4_19_28 rfl (by decide +kernel) ?_
      refine tq_s_iload_n (kk := 1) (by decide +kernel) rfl ?_
      refine tq_s_lald (by decide +kernel) sh_29 h.1 ?_
      replace h := h.2
      refine tq_callV (as := [.long r104, .long (tq_al z103 29 (Int32.toNatClampNeg a1))]) (st := []) (d1 := 2) (x1 := 0) (x2 := x) (by decide +kernel) ln_4_100 mf_X4_with rfl sh_28 rfl (by decide) np_X4_with rfl (Nat.le_of_ble_eq_true rfl) (by decide) (Nat.zero_add _).symm (tq_M_mono (am_X4_with h) ?_)
      refine tq_wl_e (fun r106 z105 h => ?_)
      refine tq_s_lstore_n (kk := 2) (L9 := [.ref 28, .int a1, .long r106, .null]) (by decide +kernel) (by decide) rfl ?_
      refine tq_s_aload_n (kk := 0) (by decide +kernel) rfl ?_
      refine fg_4_46_28 rfl (by decide +kernel) ?_
      refine tq_s_iload_n (kk := 1) (by decide +kernel) rfl ?_
      refine tq_s_lload_n (kk := 2) (by decide +kernel) rfl ?_
      refine tq_k_lc (n := 0) (v := (0 : Int64)) (by decide +kernel) (by decide +kernel) ?_
      refine tq_lcmp_ge (off := 7) (tgt := 150) (by decide +kernel) (by decide +kernel) (by decide +kernel) (fun hc => ?_) (fun hc => ?_)
      · replace h := h.1 hc
        refine tq_s_aload_n (kk := 0) (by decide +kernel) rfl ?_
        refine tq_s_lload_n (kk := 2) (by decide +kernel) rfl ?_
        refine tq_k_ic (n := 1) (v := (1 : Int32)) (by decide +kernel) kc_1 ?_
        refine tq_callV (as := [.long r106, .int (1 : Int32)]) (st := [.int a1, .ref 36]) (d1 := 88) (x1 := 0) (x2 := x) (by decide +kernel) ln_4_104 mf_X4_search rfl sh_28 rfl (by decide) np_X4_search rfl (Nat.le_of_ble_eq_true rfl) (by decide) (Nat.zero_add _).symm (tq_M_mono (am_X4_search 40 h) ?_)
        refine tq_wl_e (fun r108 z107 h => ?_)
        exact tq_to (tq_lk1 (tq_lk1 (tq_ld1 (tq_lk1 tq_l0)))) (ac_X4_refresh_156 hB96 h)
      · replace h := h.2 hc
        refine tq_k_lc (n := 0) (v := (0 : Int64)) (by decide +kernel) (by decide +kernel) ?_
        refine tq_s_goto (off := 9) (tgt := 156) (by decide +kernel) (by decide +kernel) ?_
        exact tq_to (tq_lk1 (tq_lk1 (tq_ld1 (tq_lk1 tq_l0)))) (ac_X4_refresh_156 hB96 h)
theorem ac_X4_refresh_96 {K : Nat × (Nat → Int32)} {x : Nat} {Q : tq_O → tq_S → Prop} {a1 : Int32} {z : tq_S} (h : wc_X4_refresh_96 Q a1 z) : tq_T K 89 x mm_X4_refresh 96 [.ref 28, .int a1, .null, .null] [] z Q :=
  tq_lp_T (σ := Int32 × tq_S) (s := (a1, z)) (G := fun s => tq_T K 89 x mm_X4_refresh 96 [.ref 28, .int s.1, .null, .null] [] s.2 Q) (fun B hB s h => ab_X4_refresh_96 (fun b1 z h => hB (b1, z) h) h) h
def wc_X4_refresh_91 (Q : tq_O → tq_S → Prop) (s0 : Int64) (z : tq_S) : Prop := ∀ z101 : tq_S, z101 = tq_sfl z 1809 s0 → wc_X4_refresh_96 Q (0 : Int32) z101
theorem ac_X4_refresh_91 {K : Nat × (Nat → Int32)} {x : Nat} {Q : tq_O → tq_S → Prop} {s0 : Int64} {z : tq_S} (h : wc_X4_refresh_91 Q s0 z) : tq_T K 89 x mm_X4_refresh 91 [.ref 28, .null, .null, .null] [.long s0, .ref 28] z Q := by
  unfold wc_X4_refresh_91 at h
  refine fp_4_87_28 rfl (by decide +kernel) (fun z101 ez101 => ?_)
  replace h := h z101 ez101
  refine tq_k_ic (n := 0) (v := (0 : Int32)) (by decide +kernel) kc_0 ?_
  refine tq_s_istore_n (kk := 1) (L9 := [.ref 28, .int (0 : Int32), .null, .null]) (by decide +kernel) (by decide) rfl ?_
  exact ac_X4_refresh_96 h
def wc_X4_refresh_29 (Q : tq_O → tq_S → Prop)  (z : tq_S) : Prop := wm_X4_numberCells z (tq_wv fun z101 => wm_X4_findGroup z101 (tq_wv fun z102 => wm_X4_collect z102 (tq_wv fun z103 => wm_J7_fill_d0a16_r7 (0 : Int64) z103 (tq_wv fun z104 => ∀ z105 : tq_S, z105 = tq_sfi z104 1807 (tq_fi z104 68) → ∀ z106 : tq_S, z106 = tq_sfi z105 1808 (tq_fi z105 1478) → ∀ z107 : tq_S, z107 = tq_sfl z106 1810 (-1 : Int64) → ((¬ (tq_fi z107 1804) = 0 → wc_X4_refresh_91 Q (0 : Int64) z107) ∧ ((tq_fi z107 1804) = 0 → wc_X4_refresh_91 Q (1 : Int64) z107))))))
theorem ac_X4_refresh_29 {K : Nat × (Nat → Int32)} {x : Nat} {Q : tq_O → tq_S → Prop}  {z : tq_S} (h : wc_X4_refresh_29 Q z) : tq_T K 89 x mm_X4_refresh 29 [.ref 28, .null, .null, .null] [] z Q := by
  unfold wc_X4_refresh_29 at h
  refine tq_s_aload_n (kk := 0) (by decide +kernel) rfl ?_
  refine tq_callV (as := []) (st := []) (d1 := 1) (x1 := 0) (x2 := x) (by decide +kernel) ln_4_63 mf_X4_numberCells rfl sh_28 rfl (by decide) np_X4_numberCells rfl (Nat.le_of_ble_eq_true rfl) (by decide) (Nat.zero_add _).symm (tq_M_mono (am_X4_numberCells h) ?_)
  refine tq_wv_e (fun z101 h => ?_)
  refine tq_s_aload_n (kk := 0) (by decide +kernel) rfl ?_
  refine tq_callV (as := []) (st := []) (d1 := 2) (x1 := 0) (x2 := x) (by decide +kernel) ln_4_66 mf_X4_findGroup rfl sh_28 rfl (by decide) np_X4_findGroup rfl (Nat.le_of_ble_eq_true rfl) (by decide) (Nat.zero_add _).symm (tq_M_mono (am_X4_findGroup h) ?_)
  refine tq_wv_e (fun z102 h => ?_)
  refine tq_s_aload_n (kk := 0) (by decide +kernel) rfl ?_
  refine tq_callV (as := []) (st := []) (d1 := 3) (x1 := 0) (x2 := x) (by decide +kernel) ln_4_69 mf_X4_collect rfl sh_28 rfl (by decide) np_X4_collect rfl (Nat.le_of_ble_eq_true rfl) (by decide) (Nat.zero_add _).symm (tq_M_mono (am_X4_collect h) ?_)
  refine tq_wv_e (fun z103 h => ?_)
  refine tq_s_aload_n (kk := 0) (by decide +kernel) rfl ?_
  refine fg_4_40_28 rfl (by decide +kernel) ?_
  refine tq_k_lc (n := 0) (v := (0 : Int64)) (by decide +kernel) (by decide +kernel) ?_
  refine tq_callS (as := [.ref 34, .long (0 : Int64)]) (st := []) (d1 := 0) (x1 := 0) (x2 := x) (by decide +kernel) ln_4_72 mf_J7_fill_d0a16 rfl (by decide) np_J7_fill_d0a16 rfl (Nat.le_of_ble_eq_true rfl) (by decide) (Nat.zero_add _).symm (tq_M_mono (am_J7_fill_d0a16_r7 h) ?_)
  refine tq_wv_e (fun z104 h => ?_)
  refine tq_s_aload_n (kk := 0) (by decide +kernel) rfl ?_
  refine tq_s_aload_n (kk := 0) (by decide +kernel) rfl ?_
  refine fg_4_11_28 rfl (by decide +kernel) ?_
  refine fg_4_59_1 rfl (by decide +kernel) ?_
  refine fp_4_52_28 rfl (by decide +kernel) (fun z105 ez105 => ?_)
  replace h := h z105 ez105
  refine tq_s_aload_n (kk := 0) (by decide +kernel) rfl ?_
  refine tq_s_aload_n (kk := 0) (by decide +kernel) rfl ?_
  refine fg_4_15_28 rfl (by decide +kernel) ?_
  refine fg_4_62_23 rfl (by decide +kernel) ?_
  refine fp_4_56_28 rfl (by decide +kernel) (fun z106 ez106 => ?_)
  replace h := h z106 ez106
  refine tq_s_aload_n (kk := 0) (by decide +kernel) rfl ?_
  refine tq_s_ldc2 (i := 78) (v := (-1 : Int64)) (by decide +kernel) (by decide +kernel) ?_
  refine fp_4_80_28 rfl (by decide +kernel) (fun z107 ez107 => ?_)
  replace h := h z107 ez107
  refine tq_s_aload_n (kk := 0) (by decide +kernel) rfl ?_
  refine tq_s_aload_n (kk := 0) (by decide +kernel) rfl ?_
  refine fg_4_84_28 rfl (by decide +kernel) ?_
  refine tq_if_ne (off := 7) (tgt := 90) (by decide +kernel) (by decide +kernel) (fun hc => ?_) (fun hc => ?_)
  · replace h := h.1 hc
    refine tq_k_lc (n := 0) (v := (0 : Int64)) (by decide +kernel) (by decide +kernel) ?_
    exact ac_X4_refresh_91 h
  · replace h := h.2 hc
    refine tq_k_lc (n := 1) (v := (1 : Int64)) (by decide +kernel) (by decide +kernel) ?_
    refine tq_s_goto (off := 4) (tgt := 91) (by decide +kernel) (by decide +kernel) ?_
    exact ac_X4_refresh_91 h
def wm_X4_refresh  (z : tq_S) (Q : tq_O → tq_S → Prop) : Prop := ((¬ (tq_fi z 1807) = (tq_fi z 68) → wc_X4_refresh_29 Q z) ∧ ((tq_fi z 1807) = (tq_fi z 68) → ((¬ (tq_fi z 1808) = (tq_fi z 1478) → wc_X4_refresh_29 Q z) ∧ ((tq_fi z 1808) = (tq_fi z 1478) → Q (.inl none) z))))
theorem am_X4_refresh {K : Nat × (Nat → Int32)} {x : Nat} {z : tq_S} {Q : tq_O → tq_S → Prop}  (h : wm_X4_refresh z Q) : tq_M K 89 x mm_X4_refresh [.ref 28] z Q := by
  unfold wm_X4_refresh at h
  refine tq_enter (L := [.ref 28, .null, .null, .null]) mf_X4_refresh.1 rfl rfl (Nat.le_of_ble_eq_true rfl) ?_
  refine tq_s_aload_n (kk := 0) (by decide +kernel) rfl ?_
  refine fg_4_52_28 rfl (by decide +kernel) ?_
  refine tq_s_aload_n (kk := 0) (by decide +kernel) rfl ?_
  refine fg_4_11_28 rfl (by decide +kernel) ?_
  refine fg_4_59_1 rfl (by decide +kernel) ?_
  refine tq_icmp_ne (off := 18) (tgt := 29) (by decide +kernel) (by decide +kernel) (fun hc => ?_) (fun hc => ?_)
  · replace h := h.1 hc
    exact ac_X4_refresh_29 h
  · replace h := h.2 hc
    refine tq_s_aload_n (kk := 0) (by decide +kernel) rfl ?_
    refine fg_4_56_28 rfl (by decide +kernel) ?_
    refine tq_s_aload_n (kk := 0) (by decide +kernel) rfl ?_
    refine fg_4_15_28 rfl (by decide +kernel) ?_
    refine fg_4_62_23 rfl (by decide +kernel) ?_
    refine tq_icmp_ne (off := 4) (tgt := 29) (by decide +kernel) (by decide +kernel) (fun hc => ?_) (fun hc => ?_)
    · replace h := h.1 hc
      exact ac_X4_refresh_29 h
    · replace h := h.2 hc
      exact tq_ret_v (st := []) (by decide +kernel) rfl h
def wc_X4_choose_168 (B16 : Int64 → Int64 → Int32 → tq_S → Prop) (Q : tq_O → tq_S → Prop) (a3 : Int64) (a5 : Int64) (a7 : Int32) (z : tq_S) : Prop := ∀ v101 : Int32, v101 = a7 + (1 : Int32) → B16 a3 a5 v101 z
theorem ac_X4_choose_168 {K : Nat × (Nat → Int32)} {x : Nat} {Q : tq_O → tq_S → Prop} {B16 : Int64 → Int64 → Int32 → tq_S → Prop} {a3 : Int64} {a5 : Int64} {a7 : Int32} {z : tq_S} (hB16 : ∀ (b3 : Int64) (b5 : Int64) (b7 : Int32) (z : tq_S), B16 b3 b5 b7 z → tq_T K 89 x mm_X4_choose 16 [.ref 28, .null, .null, .long b3, .null, .long b5, .null, .int b7, .null, .null, .null, .null, .null, .null] [] z Q) (h : wc_X4_choose_168 B16 Q a3 a5 a7 z) : tq_T K 89 x mm_X4_choose 168 [.ref 28, .null, .null, .long a3, .null, .long a5, .null, .int a7, .null, .null, .null, .null, .null, .null] [] z Q := by
  unfold wc_X4_choose_168 at h
  refine tq_g_iinc (i := 7) (fun v101 => [.ref 28, .null, .null, .long a3, .null, .long a5, .null, .int v101, .null, .null, .null, .null, .null, .null]) (by decide +kernel) rfl (1 : Int32) kc_1 (fun _ => rfl) (fun v101 ev101 => ?_)
  replace h := h v101 ev101
  refine tq_s_goto (off := -155) (tgt := 16) (by decide +kernel) (by decide +kernel) ?_
  exact hB16 _ _ _ _ h
def wc_X4_choose_133 (B16 : Int64 → Int64 → Int32 → tq_S → Prop) (Q : tq_O → tq_S → Prop) (a3 : Int64) (a7 : Int32) (a9 : Int32) (a10 : Int64) (z : tq_S) : Prop := vp_in a7 8 ∧ ∀ z101 : tq_S, z101 = tq_sai z 37 (upd (tq_ai z 37) (Int32.toNatClampNeg a7) a9) → ∀ z102 : tq_S, z102 = tq_sfi z101 1803 (a7 + (1 : Int32)) → wc_X4_choose_168 B16 Q a3 a10 a7 z102
theorem ac_X4_choose_133 {K : Nat × (Nat → Int32)} {x : Nat} {Q : tq_O → tq_S → Prop} {B16 : Int64 → Int64 → Int32 → tq_S → Prop} {a3 : Int64} {a7 : Int32} {a9 : Int32} {a10 : Int64} {z : tq_S} (hB16 : ∀ (b3 : Int64) (b5 : Int64) (b7 : Int32) (z : tq_S), B16 b3 b5 b7 z → tq_T K 89 x mm_X4_choose 16 [.ref 28, .null, .null, .long b3, .null, .long b5, .null, .int b7, .null, .null, .null, .null, .null, .null] [] z Q) (h : wc_X4_choose_133 B16 Q a3 a7 a9 a10 z) : tq_T K 89 x mm_X4_choose 133 [.ref 28, .null, .null, .long a3, .null, .null, .null, .int a7, .null, .int a9, .long a10, .null, .null, .null] [] z Q := by
  unfold wc_X4_choose_133 at h
  refine tq_s_aload_n (kk := 0) (by decide +kernel) rfl ?_
  refine fg_4_49_28 rfl (by decide +kernel) ?_
  refine tq_s_iload (i := 7) (by decide +kernel) rfl ?_
  refine tq_s_iload (i := 9) (by decide +kernel) rfl ?_
  refine tq_g_iast (by decide +kernel) sh_37 h.1 (fun z101 ez101 => ?_)
  replace h := h.2 z101 ez101
  refine tq_s_aload_n (kk := 0) (by decide +kernel) rfl ?_
  refine tq_s_iload (i := 7) (by decide +kernel) rfl ?_
  refine tq_k_ic (n := 1) (v := (1 : Int32)) (by decide +kernel) kc_1 ?_
  refine tq_s_iadd (by decide +kernel) ?_
  refine fp_4_224_28 rfl (by decide +kernel) (fun z102 ez102 => ?_)
  replace h := h z102 ez102
  refine tq_s_lload (i := 10) (by decide +kernel) rfl ?_
  refine tq_s_lstore (i := 5) (L9 := [.ref 28, .null, .null, .long a3, .null, .long a10, .null, .int a7, .null, .int a9, .long a10, .null, .null, .null]) (by decide +kernel) (by decide) rfl ?_
  refine tq_s_goto (off := 14) (tgt := 168) (by decide +kernel) (by decide +kernel) ?_
  exact tq_to (tq_lk1 (tq_lk1 (tq_lk1 (tq_lk1 (tq_lk1 (tq_lk1 (tq_lk1 (tq_lk1 (tq_lk1 (tq_ld1 (tq_ld1 (tq_lk1 (tq_lk1 (tq_lk1 tq_l0)))))))))))))) (ac_X4_choose_168 hB16 h)
def wc_X4_choose_124 (B16 : Int64 → Int64 → Int32 → tq_S → Prop) (B51 : Int64 → Int32 → tq_S → Prop) (Q : tq_O → tq_S → Prop) (a3 : Int64) (a5 : Int64) (a7 : Int32) (a8 : Int32) (a9 : Int32) (a10 : Int64) (s0 : Int64) (z : tq_S) : Prop := ((s0 ≤ a3 → ∀ v101 : Int64, v101 = (a3 - s0) → ∀ v102 : Int32, v102 = a9 + (1 : Int32) → B51 v101 v102 z) ∧ (¬ s0 ≤ a3 → wc_X4_choose_133 B16 Q a3 a7 a9 a10 z))
theorem ac_X4_choose_124 {K : Nat × (Nat → Int32)} {x : Nat} {Q : tq_O → tq_S → Prop} {B16 : Int64 → Int64 → Int32 → tq_S → Prop} {B51 : Int64 → Int32 → tq_S → Prop} {a3 : Int64} {a5 : Int64} {a7 : Int32} {a8 : Int32} {a9 : Int32} {a10 : Int64} {s0 : Int64} {z : tq_S} (hB16 : ∀ (b3 : Int64) (b5 : Int64) (b7 : Int32) (z : tq_S), B16 b3 b5 b7 z → tq_T K 89 x mm_X4_choose 16 [.ref 28, .null, .null, .long b3, .null, .long b5, .null, .int b7, .null, .null, .null, .null, .null, .null] [] z Q) (hB51 : ∀ (b3 : Int64) (b9 : Int32) (z : tq_S), B51 b3 b9 z → tq_T K 89 x mm_X4_choose 51 [.ref 28, .null, .null, .long b3, .null, .long a5, .null, .int a7, .int a8, .int b9, .null, .null, .null, .null] [] z Q) (h : wc_X4_choose_124 B16 B51 Q a3 a5 a7 a8 a9 a10 s0 z) : tq_T K 89 x mm_X4_choose 124 [.ref 28, .null, .null, .long a3, .null, .long a5, .null, .int a7, .int a8, .int a9, .long a10, .null, .null, .null] [.long s0] z Q := by
  unfold wc_X4_choose_124 at h
  refine tq_s_lstore (i := 12) (L9 := [.ref 28, .null, .null, .long a3, .null, .long a5, .null, .int a7, .int a8, .int a9, .long a10, .null, .long s0, .null]) (by decide +kernel) (by decide) rfl ?_
  refine tq_s_lload_n (kk := 3) (by decide +kernel) rfl ?_
  refine tq_s_lload (i := 12) (by decide +kernel) rfl ?_
  refine tq_lcmp_ge (off := 27) (tgt := 157) (by decide +kernel) (by decide +kernel) (by decide +kernel) (fun hc => ?_) (fun hc => ?_)
  · replace h := h.1 hc
    refine tq_s_lload_n (kk := 3) (by decide +kernel) rfl ?_
    refine tq_s_lload (i := 12) (by decide +kernel) rfl ?_
    refine tq_s_lsub (by decide +kernel) ?_
    refine tq_g_lstore_n (kk := 3) (fun v101 => [.ref 28, .null, .null, .long v101, .null, .long a5, .null, .int a7, .int a8, .int a9, .long a10, .null, .long s0, .null]) (by decide +kernel) (by decide) (fun _ => rfl) (fun v101 ev101 => ?_)
    replace h := h v101 ev101
    refine tq_g_iinc (i := 9) (fun v102 => [.ref 28, .null, .null, .long v101, .null, .long a5, .null, .int a7, .int a8, .int v102, .long a10, .null, .long s0, .null]) (by decide +kernel) rfl (1 : Int32) kc_1 (fun _ => rfl) (fun v102 ev102 => ?_)
    replace h := h v102 ev102
    refine tq_s_goto (off := -114) (tgt := 51) (by decide +kernel) (by decide +kernel) ?_
    exact tq_to (tq_lk1 (tq_lk1 (tq_lk1 (tq_lk1 (tq_lk1 (tq_lk1 (tq_lk1 (tq_lk1 (tq_lk1 (tq_lk1 (tq_ld1 (tq_lk1 (tq_ld1 (tq_lk1 tq_l0)))))))))))))) (hB51 _ _ _ h)
  · replace h := h.2 hc
    exact tq_to (tq_lk1 (tq_lk1 (tq_lk1 (tq_lk1 (tq_lk1 (tq_ld1 (tq_lk1 (tq_lk1 (tq_ld1 (tq_lk1 (tq_lk1 (tq_lk1 (tq_ld1 (tq_lk1 tq_l0)))))))))))))) (ac_X4_choose_133 hB16 h)
def wc_X4_choose_103 (B16 : Int64 → Int64 → Int32 → tq_S → Prop) (B51 : Int64 → Int32 → tq_S → Prop) (Q : tq_O → tq_S → Prop) (a3 : Int64) (a5 : Int64) (a7 : Int32) (a8 : Int32) (a9 : Int32) (a10 : Int64) (z : tq_S) : Prop := (((0 : Int64) ≤ a10 → wm_X4_search 40 a10 (a7 + (1 : Int32)) z (tq_wl fun r102 z101 => wc_X4_choose_124 B16 B51 Q a3 a5 a7 a8 a9 a10 r102 z101)) ∧ (¬ (0 : Int64) ≤ a10 → wc_X4_choose_124 B16 B51 Q a3 a5 a7 a8 a9 a10 (0 : Int64) z))
theorem ac_X4_choose_103 {K : Nat × (Nat → Int32)} {x : Nat} {Q : tq_O → tq_S → Prop} {B16 : Int64 → Int64 → Int32 → tq_S → Prop} {B51 : Int64 → Int32 → tq_S → Prop} {a3 : Int64} {a5 : Int64} {a7 : Int32} {a8 : Int32} {a9 : Int32} {a10 : Int64} {z : tq_S} (hB16 : ∀ (b3 : Int64) (b5 : Int64) (b7 : Int32) (z : tq_S), B16 b3 b5 b7 z → tq_T K 89 x mm_X4_choose 16 [.ref 28, .null, .null, .long b3, .null, .long b5, .null, .int b7, .null, .null, .null, .null, .null, .null] [] z Q) (hB51 : ∀ (b3 : Int64) (b9 : Int32) (z : tq_S), B51 b3 b9 z → tq_T K 89 x mm_X4_choose 51 [.ref 28, .null, .null, .long b3, .null, .long a5, .null, .int a7, .int a8, .int b9, .null, .null, .null, .null] [] z Q) (h : wc_X4_choose_103 B16 B51 Q a3 a5 a7 a8 a9 a10 z) : tq_T K 89 x mm_X4_choose 103 [.ref 28, .null, .null, .long a3, .null, .long a5, .null, .int a7, .int a8, .int a9, .long a10, .null, .null, .null] [] z Q := by
  unfold wc_X4_choose_103 at h
  refine tq_s_lload (i := 10) (by decide +kernel) rfl ?_
  refine tq_k_lc (n := 0) (v := (0 : Int64)) (by decide +kernel) (by decide +kernel) ?_
  refine tq_lcmp_ge (off := 7) (tgt := 114) (by decide +kernel) (by decide +kernel) (by decide +kernel) (fun hc => ?_) (fun hc => ?_)
  · replace h := h.1 hc
    refine tq_s_aload_n (kk := 0) (by decide +kernel) rfl ?_
    refine tq_s_lload (i := 10) (by decide +kernel) rfl ?_
    refine tq_s_iload (i := 7) (by decide +kernel) rfl ?_
    refine tq_k_ic (n := 1) (v := (1 : Int32)) (by decide +kernel) kc_1 ?_
    refine tq_s_iadd (by decide +kernel) ?_
    refine tq_callV (as := [.long a10, .int (a7 + (1 : Int32))]) (st := []) (d1 := 88) (x1 := 0) (x2 := x) (by decide +kernel) ln_4_104 mf_X4_search rfl sh_28 rfl (by decide) np_X4_search rfl (Nat.le_of_ble_eq_true rfl) (by decide) (Nat.zero_add _).symm (tq_M_mono (am_X4_search 40 h) ?_)
    refine tq_wl_e (fun r102 z101 h => ?_)
    exact ac_X4_choose_124 hB16 hB51 h
  · replace h := h.2 hc
    refine tq_k_lc (n := 0) (v := (0 : Int64)) (by decide +kernel) (by decide +kernel) ?_
    refine tq_s_goto (off := 13) (tgt := 124) (by decide +kernel) (by decide +kernel) ?_
    exact ac_X4_choose_124 hB16 hB51 h
def wb_X4_choose_51 (B16 : Int64 → Int64 → Int32 → tq_S → Prop) (B51 : Int64 → Int32 → tq_S → Prop) (Q : tq_O → tq_S → Prop) (a3 : Int64) (a5 : Int64) (a7 : Int32) (a8 : Int32) (a9 : Int32) (z : tq_S) : Prop := vp_in (a8 + (1 : Int32)) 25 ∧ (((tq_ai z 30 (Int32.toNatClampNeg (a8 + (1 : Int32)))) ≤ a9 → wc_X4_choose_168 B16 Q a3 a5 a7 z) ∧ (¬ (tq_ai z 30 (Int32.toNatClampNeg (a8 + (1 : Int32)))) ≤ a9 → vp_in a9 1152 ∧ wm_X4_with a5 (tq_al z 29 (Int32.toNatClampNeg a9)) z (tq_wl fun r102 z101 => ((¬ a7 = 0 → wc_X4_choose_103 B16 B51 Q a3 a5 a7 a8 a9 r102 z101) ∧ (a7 = 0 → (((288 : Int32) ≤ a9 → wc_X4_choose_103 B16 B51 Q a3 a5 a7 a8 a9 r102 z101) ∧ (¬ (288 : Int32) ≤ a9 → vp_in a9 288 ∧ wc_X4_choose_124 B16 B51 Q a3 a5 a7 a8 a9 r102 (tq_al z101 36 (Int32.toNatClampNeg a9)) z101)))))))
def wc_X4_choose_51 (B16 : Int64 → Int64 → Int32 → tq_S → Prop) (Q : tq_O → tq_S → Prop) (a3 : Int64) (a5 : Int64) (a7 : Int32) (a8 : Int32) (a9 : Int32) (z : tq_S) : Prop := tq_lp (σ := Int64 × Int32 × tq_S) (fun B s => wb_X4_choose_51 B16 (fun b3 b9 z => B (b3, b9, z)) Q s.1 a5 a7 a8 s.2.1 s.2.2) (a3, a9, z)
theorem ab_X4_choose_51 {K : Nat × (Nat → Int32)} {x : Nat} {Q : tq_O → tq_S → Prop} {B16 : Int64 → Int64 → Int32 → tq_S → Prop} {B51 : Int64 → Int32 → tq_S → Prop} {a3 : Int64} {a5 : Int64} {a7 : Int32} {a8 : Int32} {a9 : Int32} {z : tq_S} (hB16 : ∀ (b3 : Int64) (b5 : Int64) (b7 : Int32) (z : tq_S), B16 b3 b5 b7 z → tq_T K 89 x mm_X4_choose 16 [.ref 28, .null, .null, .long b3, .null, .long b5, .null, .int b7, .null, .null, .null, .null, .null, .null] [] z Q) (hB51 : ∀ (b3 : Int64) (b9 : Int32) (z : tq_S), B51 b3 b9 z → tq_T K 89 x mm_X4_choose 51 [.ref 28, .null, .null, .long b3, .null, .long a5, .null, .int a7, .int a8, .int b9, .null, .null, .null, .null] [] z Q) (h : wb_X4_choose_51 B16 B51 Q a3 a5 a7 a8 a9 z) : tq_T K 89 x mm_X4_choose 51 [.ref 28, .null, .null, .long a3, .null, .long a5, .null, .int a7, .int a8, .int a9, .null, .null, .null, .null] [] z Q := by
  unfold wb_X4_choose_51 at h
  refine tq_s_iload (i := 9) (by decide +kernel) rfl ?_
  refine tq_s_aload_n (kk := 0) (by decide +kernel) rfl ?_
  refine fg_4_23_28 rfl (by decide +kernel) ?_
  refine tq_s_iload (i := 8) (by decide +kernel) rfl ?_
  refine tq_k_ic (n := 1) (v := (1 : Int32)) (by decide +kernel) kc_1 ?_
  refine tq_s_iadd (by decide +kernel) ?_
  refine tq_s_iald (by decide +kernel) sh_30 h.1 ?_
  replace h := h.2
  refine tq_icmp_ge (off := 106) (tgt := 168) (by decide +kernel) (by decide +kernel) (fun hc => ?_) (fun hc => ?_)
  · replace h := h.1 hc
    exact tq_to (tq_lk1 (tq_lk1 (tq_lk1 (tq_lk1 (tq_lk1 (tq_lk1 (tq_lk1 (tq_lk1 (tq_ld1 (tq_ld1 (tq_lk1 (tq_lk1 (tq_lk1 (tq_lk1 tq_l0)))))))))))))) (ac_X4_choose_168 hB16 h)
  · replace h := h.2 hc
    refine tq_s_aload_n (kk := 0) (by decide +kernel) rfl ?_
    refine tq_s_lload (i := 5) (by decide +kernel) rfl ?_
    refine tq_s_aload_n (kk := 0) (by decide +kernel) rfl ?_
    refine fg_4_19_28 rfl (by decide +kernel) ?_
    refine tq_s_iload (i := 9) (by decide +kernel) rfl ?_
    refine tq_s_lald (by decide +kernel) sh_29 h.1 ?_
    replace h := h.2
    refine tq_callV (as := [.long a5, .long (tq_al z 29 (Int32.toNatClampNeg a9))]) (st := []) (d1 := 2) (x1 := 0) (x2 := x) (by decide +kernel) ln_4_100 mf_X4_with rfl sh_28 rfl (by decide) np_X4_with rfl (Nat.le_of_ble_eq_true rfl) (by decide) (Nat.zero_add _).symm (tq_M_mono (am_X4_with h) ?_)
    refine tq_wl_e (fun r102 z101 h => ?_)
    refine tq_s_lstore (i := 10) (L9 := [.ref 28, .null, .null, .long a3, .null, .long a5, .null, .int a7, .int a8, .int a9, .long r102, .null, .null, .null]) (by decide +kernel) (by decide) rfl ?_
    refine tq_s_iload (i := 7) (by decide +kernel) rfl ?_
    refine tq_if_ne (off := 21) (tgt := 103) (by decide +kernel) (by decide +kernel) (fun hc => ?_) (fun hc => ?_)
    · replace h := h.1 hc
      exact ac_X4_choose_103 hB16 hB51 h
    · replace h := h.2 hc
      refine tq_s_iload (i := 9) (by decide +kernel) rfl ?_
      refine tq_k_si (n := 288) (v := (288 : Int32)) (by decide +kernel) ks_288 ?_
      refine tq_icmp_ge (off := 13) (tgt := 103) (by decide +kernel) (by decide +kernel) (fun hc => ?_) (fun hc => ?_)
      · replace h := h.1 hc
        exact ac_X4_choose_103 hB16 hB51 h
      · replace h := h.2 hc
        refine tq_s_aload_n (kk := 0) (by decide +kernel) rfl ?_
        refine fg_4_46_28 rfl (by decide +kernel) ?_
        refine tq_s_iload (i := 9) (by decide +kernel) rfl ?_
        refine tq_s_lald (by decide +kernel) sh_36 h.1 ?_
        replace h := h.2
        refine tq_s_goto (off := 24) (tgt := 124) (by decide +kernel) (by decide +kernel) ?_
        exact ac_X4_choose_124 hB16 hB51 h
theorem ac_X4_choose_51 {K : Nat × (Nat → Int32)} {x : Nat} {Q : tq_O → tq_S → Prop} {B16 : Int64 → Int64 → Int32 → tq_S → Prop} {a3 : Int64} {a5 : Int64} {a7 : Int32} {a8 : Int32} {a9 : Int32} {z : tq_S} (hB16 : ∀ (b3 : Int64) (b5 : Int64) (b7 : Int32) (z : tq_S), B16 b3 b5 b7 z → tq_T K 89 x mm_X4_choose 16 [.ref 28, .null, .null, .long b3, .null, .long b5, .null, .int b7, .null, .null, .null, .null, .null, .null] [] z Q) (h : wc_X4_choose_51 B16 Q a3 a5 a7 a8 a9 z) : tq_T K 89 x mm_X4_choose 51 [.ref 28, .null, .null, .long a3, .null, .long a5, .null, .int a7, .int a8, .int a9, .null, .null, .null, .null] [] z Q :=
  tq_lp_T (σ := Int64 × Int32 × tq_S) (s := (a3, a9, z)) (G := fun s => tq_T K 89 x mm_X4_choose 51 [.ref 28, .null, .null, .long s.1, .null, .long a5, .null, .int a7, .int a8, .int s.2.1, .null, .null, .null, .null] [] s.2.2 Q) (fun B hB s h => ab_X4_choose_51 hB16 (fun b3 b9 z h => hB (b3, b9, z) h) h) h
def wb_X4_choose_16 (B16 : Int64 → Int64 → Int32 → tq_S → Prop) (Q : tq_O → tq_S → Prop) (a3 : Int64) (a5 : Int64) (a7 : Int32) (z : tq_S) : Prop := (((8 : Int32) ≤ a7 → Q (.inl none) z) ∧ (¬ (8 : Int32) ≤ a7 → wm_X4_firstOpen a5 z (tq_wi fun r102 z101 => (((tq_fi z101 1804) ≤ r102 → Q (.inl none) z101) ∧ (¬ (tq_fi z101 1804) ≤ r102 → wm_X4_firstOpen a5 z101 (tq_wi fun r104 z103 => vp_in r104 25 ∧ ∀ v105 : Int32, v105 = (tq_ai z103 30 (Int32.toNatClampNeg r104)) → wc_X4_choose_51 B16 Q a3 a5 a7 r104 v105 z103))))))
def wc_X4_choose_16 (Q : tq_O → tq_S → Prop) (a3 : Int64) (a5 : Int64) (a7 : Int32) (z : tq_S) : Prop := tq_lp (σ := Int64 × Int64 × Int32 × tq_S) (fun B s => wb_X4_choose_16 (fun b3 b5 b7 z => B (b3, b5, b7, z)) Q s.1 s.2.1 s.2.2.1 s.2.2.2) (a3, a5, a7, z)
theorem ab_X4_choose_16 {K : Nat × (Nat → Int32)} {x : Nat} {Q : tq_O → tq_S → Prop} {B16 : Int64 → Int64 → Int32 → tq_S → Prop} {a3 : Int64} {a5 : Int64} {a7 : Int32} {z : tq_S} (hB16 : ∀ (b3 : Int64) (b5 : Int64) (b7 : Int32) (z : tq_S), B16 b3 b5 b7 z → tq_T K 89 x mm_X4_choose 16 [.ref 28, .null, .null, .long b3, .null, .long b5, .null, .int b7, .null, .null, .null, .null, .null, .null] [] z Q) (h : wb_X4_choose_16 B16 Q a3 a5 a7 z) : tq_T K 89 x mm_X4_choose 16 [.ref 28, .null, .null, .long a3, .null, .long a5, .null, .int a7, .null, .null, .null, .null, .null, .null] [] z Q := by
  unfold wb_X4_choose_16 at h
  refine tq_s_iload (i := 7) (by decide +kernel) rfl ?_
  refine tq_k_bi (n := 8) (v := (8 : Int32)) (by decide +kernel) kb_8 ?_
  refine tq_icmp_ge (off := 154) (tgt := 174) (by decide +kernel) (by decide +kernel) (fun hc => ?_) (fun hc => ?_)
  · replace h := h.1 hc
    exact tq_ret_v (st := []) (by decide +kernel) rfl h
  · replace h := h.2 hc
    refine tq_s_lload (i := 5) (by decide +kernel) rfl ?_
    refine tq_callS (as := [.long a5]) (st := []) (d1 := 1) (x1 := 0) (x2 := x) (by decide +kernel) ln_4_207 mf_X4_firstOpen rfl (by decide) np_X4_firstOpen rfl (Nat.le_of_ble_eq_true rfl) (by decide) (Nat.zero_add _).symm (tq_M_mono (am_X4_firstOpen h) ?_)
    refine tq_wi_e (fun r102 z101 h => ?_)
    refine tq_s_aload_n (kk := 0) (by decide +kernel) rfl ?_
    refine fg_4_84_28 rfl (by decide +kernel) ?_
    refine tq_icmp_ge (off := 142) (tgt := 174) (by decide +kernel) (by decide +kernel) (fun hc => ?_) (fun hc => ?_)
    · replace h := h.1 hc
      exact tq_ret_v (st := []) (by decide +kernel) rfl h
    · replace h := h.2 hc
      refine tq_s_lload (i := 5) (by decide +kernel) rfl ?_
      refine tq_callS (as := [.long a5]) (st := []) (d1 := 1) (x1 := 0) (x2 := x) (by decide +kernel) ln_4_207 mf_X4_firstOpen rfl (by decide) np_X4_firstOpen rfl (Nat.le_of_ble_eq_true rfl) (by decide) (Nat.zero_add _).symm (tq_M_mono (am_X4_firstOpen h) ?_)
      refine tq_wi_e (fun r104 z103 h => ?_)
      refine tq_s_istore (i := 8) (L9 := [.ref 28, .null, .null, .long a3, .null, .long a5, .null, .int a7, .int r104, .null, .null, .null, .null, .null]) (by decide +kernel) (by decide) rfl ?_
      refine tq_s_aload_n (kk := 0) (by decide +kernel) rfl ?_
      refine fg_4_23_28 rfl (by decide +kernel) ?_
      refine tq_s_iload (i := 8) (by decide +kernel) rfl ?_
      refine tq_s_iald (by decide +kernel) sh_30 h.1 ?_
      replace h := h.2
      refine tq_g_istore (i := 9) (fun v105 => [.ref 28, .null, .null, .long a3, .null, .long a5, .null, .int a7, .int r104, .int v105, .null, .null, .null, .null]) (by decide +kernel) (by decide) (fun _ => rfl) (fun v105 ev105 => ?_)
      replace h := h v105 ev105
      exact ac_X4_choose_51 hB16 h
theorem ac_X4_choose_16 {K : Nat × (Nat → Int32)} {x : Nat} {Q : tq_O → tq_S → Prop} {a3 : Int64} {a5 : Int64} {a7 : Int32} {z : tq_S} (h : wc_X4_choose_16 Q a3 a5 a7 z) : tq_T K 89 x mm_X4_choose 16 [.ref 28, .null, .null, .long a3, .null, .long a5, .null, .int a7, .null, .null, .null, .null, .null, .null] [] z Q :=
  tq_lp_T (σ := Int64 × Int64 × Int32 × tq_S) (s := (a3, a5, a7, z)) (G := fun s => tq_T K 89 x mm_X4_choose 16 [.ref 28, .null, .null, .long s.1, .null, .long s.2.1, .null, .int s.2.2.1, .null, .null, .null, .null, .null, .null] [] s.2.2.2 Q) (fun B hB s h => ab_X4_choose_16 (fun b3 b5 b7 z h => hB (b3, b5, b7, z) h) h) h
def wm_X4_choose (a1 : Int64) (z : tq_S) (Q : tq_O → tq_S → Prop) : Prop := wm_X4_beginning z (tq_wl fun r2 z1 => ∀ z3 : tq_S, z3 = tq_sfi z1 1803 (0 : Int32) → wc_X4_choose_16 Q a1 r2 (0 : Int32) z3)
theorem am_X4_choose {K : Nat × (Nat → Int32)} {x : Nat} {z : tq_S} {Q : tq_O → tq_S → Prop} {a1 : Int64} (h : wm_X4_choose a1 z Q) : tq_M K 89 x mm_X4_choose [.ref 28, .long a1] z Q := by
  unfold wm_X4_choose at h
  refine tq_enter (L := [.ref 28, .long a1, .null, .null, .null, .null, .null, .null, .null, .null, .null, .null, .null, .null]) mf_X4_choose.1 rfl rfl (Nat.le_of_ble_eq_true rfl) ?_
  refine tq_s_lload_n (kk := 1) (by decide +kernel) rfl ?_
  refine tq_s_lstore_n (kk := 3) (L9 := [.ref 28, .long a1, .null, .long a1, .null, .null, .null, .null, .null, .null, .null, .null, .null, .null]) (by decide +kernel) (by decide) rfl ?_
  refine tq_s_aload_n (kk := 0) (by decide +kernel) rfl ?_
  refine tq_callV (as := []) (st := []) (d1 := 2) (x1 := 0) (x2 := x) (by decide +kernel) ln_4_96 mf_X4_beginning rfl sh_28 rfl (by decide) np_X4_beginning rfl (Nat.le_of_ble_eq_true rfl) (by decide) (Nat.zero_add _).symm (tq_M_mono (am_X4_beginning h) ?_)
  refine tq_wl_e (fun r2 z1 h => ?_)
  refine tq_s_lstore (i := 5) (L9 := [.ref 28, .long a1, .null, .long a1, .null, .long r2, .null, .null, .null, .null, .null, .null, .null, .null]) (by decide +kernel) (by decide) rfl ?_
  refine tq_s_aload_n (kk := 0) (by decide +kernel) rfl ?_
  refine tq_k_ic (n := 0) (v := (0 : Int32)) (by decide +kernel) kc_0 ?_
  refine fp_4_224_28 rfl (by decide +kernel) (fun z3 ez3 => ?_)
  replace h := h z3 ez3
  refine tq_k_ic (n := 0) (v := (0 : Int32)) (by decide +kernel) kc_0 ?_
  refine tq_s_istore (i := 7) (L9 := [.ref 28, .long a1, .null, .long a1, .null, .long r2, .null, .int (0 : Int32), .null, .null, .null, .null, .null, .null]) (by decide +kernel) (by decide) rfl ?_
  exact tq_to (tq_lk1 (tq_ld1 (tq_lk1 (tq_lk1 (tq_lk1 (tq_lk1 (tq_lk1 (tq_lk1 (tq_lk1 (tq_lk1 (tq_lk1 (tq_lk1 (tq_lk1 (tq_lk1 tq_l0)))))))))))))) (ac_X4_choose_16 h)
def wc_X4_chosenNumber_124 (B10 : Int64 → Int64 → Int32 → tq_S → Prop) (B53 : Int64 → Int32 → tq_S → Prop) (Q : tq_O → tq_S → Prop) (a3 : Int64) (a5 : Int32) (a7 : Int32) (s0 : Int64) (s1 : Int64) (z : tq_S) : Prop := ∀ v101 : Int64, v101 = (s1 + s0) → ∀ v102 : Int32, v102 = a7 + (1 : Int32) → B53 v101 v102 z
theorem ac_X4_chosenNumber_124 {K : Nat × (Nat → Int32)} {x : Nat} {Q : tq_O → tq_S → Prop} {B10 : Int64 → Int64 → Int32 → tq_S → Prop} {B53 : Int64 → Int32 → tq_S → Prop} {a3 : Int64} {a5 : Int32} {a7 : Int32} {s0 : Int64} {s1 : Int64} {z : tq_S} (hB10 : ∀ (b1 : Int64) (b3 : Int64) (b5 : Int32) (z : tq_S), B10 b1 b3 b5 z → tq_T K 89 x mm_X4_chosenNumber 10 [.ref 28, .long b1, .null, .long b3, .null, .int b5, .null, .null, .null, .null] [] z Q) (hB53 : ∀ (b1 : Int64) (b7 : Int32) (z : tq_S), B53 b1 b7 z → tq_T K 89 x mm_X4_chosenNumber 53 [.ref 28, .long b1, .null, .long a3, .null, .int a5, .null, .int b7, .null, .null] [] z Q) (h : wc_X4_chosenNumber_124 B10 B53 Q a3 a5 a7 s0 s1 z) : tq_T K 89 x mm_X4_chosenNumber 124 [.ref 28, .null, .null, .long a3, .null, .int a5, .null, .int a7, .null, .null] [.long s0, .long s1] z Q := by
  unfold wc_X4_chosenNumber_124 at h
  refine tq_s_ladd (by decide +kernel) ?_
  refine tq_g_lstore_n (kk := 1) (fun v101 => [.ref 28, .long v101, .null, .long a3, .null, .int a5, .null, .int a7, .null, .null]) (by decide +kernel) (by decide) (fun _ => rfl) (fun v101 ev101 => ?_)
  replace h := h v101 ev101
  refine tq_g_iinc (i := 7) (fun v102 => [.ref 28, .long v101, .null, .long a3, .null, .int a5, .null, .int v102, .null, .null]) (by decide +kernel) rfl (1 : Int32) kc_1 (fun _ => rfl) (fun v102 ev102 => ?_)
  replace h := h v102 ev102
  refine tq_s_goto (off := -76) (tgt := 53) (by decide +kernel) (by decide +kernel) ?_
  exact hB53 _ _ _ h
def wc_X4_chosenNumber_103 (B10 : Int64 → Int64 → Int32 → tq_S → Prop) (B53 : Int64 → Int32 → tq_S → Prop) (Q : tq_O → tq_S → Prop) (a3 : Int64) (a5 : Int32) (a7 : Int32) (a8 : Int64) (s0 : Int64) (z : tq_S) : Prop := (((0 : Int64) ≤ a8 → wm_X4_search 40 a8 (a5 + (1 : Int32)) z (tq_wl fun r102 z101 => wc_X4_chosenNumber_124 B10 B53 Q a3 a5 a7 r102 s0 z101)) ∧ (¬ (0 : Int64) ≤ a8 → wc_X4_chosenNumber_124 B10 B53 Q a3 a5 a7 (0 : Int64) s0 z))
theorem ac_X4_chosenNumber_103 {K : Nat × (Nat → Int32)} {x : Nat} {Q : tq_O → tq_S → Prop} {B10 : Int64 → Int64 → Int32 → tq_S → Prop} {B53 : Int64 → Int32 → tq_S → Prop} {a3 : Int64} {a5 : Int32} {a7 : Int32} {a8 : Int64} {s0 : Int64} {z : tq_S} (hB10 : ∀ (b1 : Int64) (b3 : Int64) (b5 : Int32) (z : tq_S), B10 b1 b3 b5 z → tq_T K 89 x mm_X4_chosenNumber 10 [.ref 28, .long b1, .null, .long b3, .null, .int b5, .null, .null, .null, .null] [] z Q) (hB53 : ∀ (b1 : Int64) (b7 : Int32) (z : tq_S), B53 b1 b7 z → tq_T K 89 x mm_X4_chosenNumber 53 [.ref 28, .long b1, .null, .long a3, .null, .int a5, .null, .int b7, .null, .null] [] z Q) (h : wc_X4_chosenNumber_103 B10 B53 Q a3 a5 a7 a8 s0 z) : tq_T K 89 x mm_X4_chosenNumber 103 [.ref 28, .null, .null, .long a3, .null, .int a5, .null, .int a7, .long a8, .null] [.long s0] z Q := by
  unfold wc_X4_chosenNumber_103 at h
  refine tq_s_lload (i := 8) (by decide +kernel) rfl ?_
  refine tq_k_lc (n := 0) (v := (0 : Int64)) (by decide +kernel) (by decide +kernel) ?_
  refine tq_lcmp_ge (off := 7) (tgt := 114) (by decide +kernel) (by decide +kernel) (by decide +kernel) (fun hc => ?_) (fun hc => ?_)
  · replace h := h.1 hc
    refine tq_s_aload_n (kk := 0) (by decide +kernel) rfl ?_
    refine tq_s_lload (i := 8) (by decide +kernel) rfl ?_
    refine tq_s_iload (i := 5) (by decide +kernel) rfl ?_
    refine tq_k_ic (n := 1) (v := (1 : Int32)) (by decide +kernel) kc_1 ?_
    refine tq_s_iadd (by decide +kernel) ?_
    refine tq_callV (as := [.long a8, .int (a5 + (1 : Int32))]) (st := [.long s0]) (d1 := 88) (x1 := 0) (x2 := x) (by decide +kernel) ln_4_104 mf_X4_search rfl sh_28 rfl (by decide) np_X4_search rfl (Nat.le_of_ble_eq_true rfl) (by decide) (Nat.zero_add _).symm (tq_M_mono (am_X4_search 40 h) ?_)
    refine tq_wl_e (fun r102 z101 h => ?_)
    exact tq_to (tq_lk1 (tq_lk1 (tq_lk1 (tq_lk1 (tq_lk1 (tq_lk1 (tq_lk1 (tq_lk1 (tq_ld1 (tq_lk1 tq_l0)))))))))) (ac_X4_chosenNumber_124 hB10 hB53 h)
  · replace h := h.2 hc
    refine tq_k_lc (n := 0) (v := (0 : Int64)) (by decide +kernel) (by decide +kernel) ?_
    refine tq_s_goto (off := 13) (tgt := 124) (by decide +kernel) (by decide +kernel) ?_
    exact tq_to (tq_lk1 (tq_lk1 (tq_lk1 (tq_lk1 (tq_lk1 (tq_lk1 (tq_lk1 (tq_lk1 (tq_ld1 (tq_lk1 tq_l0)))))))))) (ac_X4_chosenNumber_124 hB10 hB53 h)
def wc_X4_chosenNumber_132 (B10 : Int64 → Int64 → Int32 → tq_S → Prop) (Q : tq_O → tq_S → Prop) (a1 : Int64) (a3 : Int64) (a5 : Int32) (z : tq_S) : Prop := vp_in a5 8 ∧ vp_in (tq_ai z 37 (Int32.toNatClampNeg a5)) 1152 ∧ wm_X4_with a3 (tq_al z 29 (Int32.toNatClampNeg (tq_ai z 37 (Int32.toNatClampNeg a5)))) z (tq_wl fun r102 z101 => ∀ v103 : Int32, v103 = a5 + (1 : Int32) → B10 a1 r102 v103 z101)
theorem ac_X4_chosenNumber_132 {K : Nat × (Nat → Int32)} {x : Nat} {Q : tq_O → tq_S → Prop} {B10 : Int64 → Int64 → Int32 → tq_S → Prop} {a1 : Int64} {a3 : Int64} {a5 : Int32} {z : tq_S} (hB10 : ∀ (b1 : Int64) (b3 : Int64) (b5 : Int32) (z : tq_S), B10 b1 b3 b5 z → tq_T K 89 x mm_X4_chosenNumber 10 [.ref 28, .long b1, .null, .long b3, .null, .int b5, .null, .null, .null, .null] [] z Q) (h : wc_X4_chosenNumber_132 B10 Q a1 a3 a5 z) : tq_T K 89 x mm_X4_chosenNumber 132 [.ref 28, .long a1, .null, .long a3, .null, .int a5, .null, .null, .null, .null] [] z Q := by
  unfold wc_X4_chosenNumber_132 at h
  refine tq_s_aload_n (kk := 0) (by decide +kernel) rfl ?_
  refine tq_s_lload_n (kk := 3) (by decide +kernel) rfl ?_
  refine tq_s_aload_n (kk := 0) (by decide +kernel) rfl ?_
  refine fg_4_19_28 rfl (by decide +kernel) ?_
  refine tq_s_aload_n (kk := 0) (by decide +kernel) rfl ?_
  refine fg_4_49_28 rfl (by decide +kernel) ?_
  refine tq_s_iload (i := 5) (by decide +kernel) rfl ?_
  refine tq_s_iald (by decide +kernel) sh_37 h.1 ?_
  replace h := h.2
  refine tq_s_lald (by decide +kernel) sh_29 h.1 ?_
  replace h := h.2
  refine tq_callV (as := [.long a3, .long (tq_al z 29 (Int32.toNatClampNeg (tq_ai z 37 (Int32.toNatClampNeg a5))))]) (st := []) (d1 := 2) (x1 := 0) (x2 := x) (by decide +kernel) ln_4_100 mf_X4_with rfl sh_28 rfl (by decide) np_X4_with rfl (Nat.le_of_ble_eq_true rfl) (by decide) (Nat.zero_add _).symm (tq_M_mono (am_X4_with h) ?_)
  refine tq_wl_e (fun r102 z101 h => ?_)
  refine tq_s_lstore_n (kk := 3) (L9 := [.ref 28, .long a1, .null, .long r102, .null, .int a5, .null, .null, .null, .null]) (by decide +kernel) (by decide) rfl ?_
  refine tq_g_iinc (i := 5) (fun v103 => [.ref 28, .long a1, .null, .long r102, .null, .int v103, .null, .null, .null, .null]) (by decide +kernel) rfl (1 : Int32) kc_1 (fun _ => rfl) (fun v103 ev103 => ?_)
  replace h := h v103 ev103
  refine tq_s_goto (off := -143) (tgt := 10) (by decide +kernel) (by decide +kernel) ?_
  exact hB10 _ _ _ _ h
def wb_X4_chosenNumber_53 (B10 : Int64 → Int64 → Int32 → tq_S → Prop) (B53 : Int64 → Int32 → tq_S → Prop) (Q : tq_O → tq_S → Prop) (a1 : Int64) (a3 : Int64) (a5 : Int32) (a7 : Int32) (z : tq_S) : Prop := vp_in a5 8 ∧ (((tq_ai z 37 (Int32.toNatClampNeg a5)) ≤ a7 → wc_X4_chosenNumber_132 B10 Q a1 a3 a5 z) ∧ (¬ (tq_ai z 37 (Int32.toNatClampNeg a5)) ≤ a7 → vp_in a7 1152 ∧ wm_X4_with a3 (tq_al z 29 (Int32.toNatClampNeg a7)) z (tq_wl fun r102 z101 => ((¬ a5 = 0 → wc_X4_chosenNumber_103 B10 B53 Q a3 a5 a7 r102 a1 z101) ∧ (a5 = 0 → (((288 : Int32) ≤ a7 → wc_X4_chosenNumber_103 B10 B53 Q a3 a5 a7 r102 a1 z101) ∧ (¬ (288 : Int32) ≤ a7 → vp_in a7 288 ∧ wc_X4_chosenNumber_124 B10 B53 Q a3 a5 a7 (tq_al z101 36 (Int32.toNatClampNeg a7)) a1 z101)))))))
def wc_X4_chosenNumber_53 (B10 : Int64 → Int64 → Int32 → tq_S → Prop) (Q : tq_O → tq_S → Prop) (a1 : Int64) (a3 : Int64) (a5 : Int32) (a7 : Int32) (z : tq_S) : Prop := tq_lp (σ := Int64 × Int32 × tq_S) (fun B s => wb_X4_chosenNumber_53 B10 (fun b1 b7 z => B (b1, b7, z)) Q s.1 a3 a5 s.2.1 s.2.2) (a1, a7, z)
theorem ab_X4_chosenNumber_53 {K : Nat × (Nat → Int32)} {x : Nat} {Q : tq_O → tq_S → Prop} {B10 : Int64 → Int64 → Int32 → tq_S → Prop} {B53 : Int64 → Int32 → tq_S → Prop} {a1 : Int64} {a3 : Int64} {a5 : Int32} {a7 : Int32} {z : tq_S} (hB10 : ∀ (b1 : Int64) (b3 : Int64) (b5 : Int32) (z : tq_S), B10 b1 b3 b5 z → tq_T K 89 x mm_X4_chosenNumber 10 [.ref 28, .long b1, .null, .long b3, .null, .int b5, .null, .null, .null, .null] [] z Q) (hB53 : ∀ (b1 : Int64) (b7 : Int32) (z : tq_S), B53 b1 b7 z → tq_T K 89 x mm_X4_chosenNumber 53 [.ref 28, .long b1, .null, .long a3, .null, .int a5, .null, .int b7, .null, .null] [] z Q) (h : wb_X4_chosenNumber_53 B10 B53 Q a1 a3 a5 a7 z) : tq_T K 89 x mm_X4_chosenNumber 53 [.ref 28, .long a1, .null, .long a3, .null, .int a5, .null, .int a7, .null, .null] [] z Q := by
  unfold wb_X4_chosenNumber_53 at h
  refine tq_s_iload (i := 7) (by decide +kernel) rfl ?_
  refine tq_s_aload_n (kk := 0) (by decide +kernel) rfl ?_
  refine fg_4_49_28 rfl (by decide +kernel) ?_
  refine tq_s_iload (i := 5) (by decide +kernel) rfl ?_
  refine tq_s_iald (by decide +kernel) sh_37 h.1 ?_
  replace h := h.2
  refine tq_icmp_ge (off := 70) (tgt := 132) (by decide +kernel) (by decide +kernel) (fun hc => ?_) (fun hc => ?_)
  · replace h := h.1 hc
    exact tq_to (tq_lk1 (tq_lk1 (tq_lk1 (tq_lk1 (tq_lk1 (tq_lk1 (tq_lk1 (tq_ld1 (tq_lk1 (tq_lk1 tq_l0)))))))))) (ac_X4_chosenNumber_132 hB10 h)
  · replace h := h.2 hc
    refine tq_s_aload_n (kk := 0) (by decide +kernel) rfl ?_
    refine tq_s_lload_n (kk := 3) (by decide +kernel) rfl ?_
    refine tq_s_aload_n (kk := 0) (by decide +kernel) rfl ?_
    refine fg_4_19_28 rfl (by decide +kernel) ?_
    refine tq_s_iload (i := 7) (by decide +kernel) rfl ?_
    refine tq_s_lald (by decide +kernel) sh_29 h.1 ?_
    replace h := h.2
    refine tq_callV (as := [.long a3, .long (tq_al z 29 (Int32.toNatClampNeg a7))]) (st := []) (d1 := 2) (x1 := 0) (x2 := x) (by decide +kernel) ln_4_100 mf_X4_with rfl sh_28 rfl (by decide) np_X4_with rfl (Nat.le_of_ble_eq_true rfl) (by decide) (Nat.zero_add _).symm (tq_M_mono (am_X4_with h) ?_)
    refine tq_wl_e (fun r102 z101 h => ?_)
    refine tq_s_lstore (i := 8) (L9 := [.ref 28, .long a1, .null, .long a3, .null, .int a5, .null, .int a7, .long r102, .null]) (by decide +kernel) (by decide) rfl ?_
    refine tq_s_lload_n (kk := 1) (by decide +kernel) rfl ?_
    refine tq_s_iload (i := 5) (by decide +kernel) rfl ?_
    refine tq_if_ne (off := 21) (tgt := 103) (by decide +kernel) (by decide +kernel) (fun hc => ?_) (fun hc => ?_)
    · replace h := h.1 hc
      exact tq_to (tq_lk1 (tq_ld1 (tq_lk1 (tq_lk1 (tq_lk1 (tq_lk1 (tq_lk1 (tq_lk1 (tq_lk1 (tq_lk1 tq_l0)))))))))) (ac_X4_chosenNumber_103 hB10 hB53 h)
    · replace h := h.2 hc
      refine tq_s_iload (i := 7) (by decide +kernel) rfl ?_
      refine tq_k_si (n := 288) (v := (288 : Int32)) (by decide +kernel) ks_288 ?_
      refine tq_icmp_ge (off := 13) (tgt := 103) (by decide +kernel) (by decide +kernel) (fun hc => ?_) (fun hc => ?_)
      · replace h := h.1 hc
        exact tq_to (tq_lk1 (tq_ld1 (tq_lk1 (tq_lk1 (tq_lk1 (tq_lk1 (tq_lk1 (tq_lk1 (tq_lk1 (tq_lk1 tq_l0)))))))))) (ac_X4_chosenNumber_103 hB10 hB53 h)
      · replace h := h.2 hc
        refine tq_s_aload_n (kk := 0) (by decide +kernel) rfl ?_
        refine fg_4_46_28 rfl (by decide +kernel) ?_
        refine tq_s_iload (i := 7) (by decide +kernel) rfl ?_
        refine tq_s_lald (by decide +kernel) sh_36 h.1 ?_
        replace h := h.2
        refine tq_s_goto (off := 24) (tgt := 124) (by decide +kernel) (by decide +kernel) ?_
        exact tq_to (tq_lk1 (tq_ld1 (tq_lk1 (tq_lk1 (tq_lk1 (tq_lk1 (tq_lk1 (tq_lk1 (tq_ld1 (tq_lk1 tq_l0)))))))))) (ac_X4_chosenNumber_124 hB10 hB53 h)
theorem ac_X4_chosenNumber_53 {K : Nat × (Nat → Int32)} {x : Nat} {Q : tq_O → tq_S → Prop} {B10 : Int64 → Int64 → Int32 → tq_S → Prop} {a1 : Int64} {a3 : Int64} {a5 : Int32} {a7 : Int32} {z : tq_S} (hB10 : ∀ (b1 : Int64) (b3 : Int64) (b5 : Int32) (z : tq_S), B10 b1 b3 b5 z → tq_T K 89 x mm_X4_chosenNumber 10 [.ref 28, .long b1, .null, .long b3, .null, .int b5, .null, .null, .null, .null] [] z Q) (h : wc_X4_chosenNumber_53 B10 Q a1 a3 a5 a7 z) : tq_T K 89 x mm_X4_chosenNumber 53 [.ref 28, .long a1, .null, .long a3, .null, .int a5, .null, .int a7, .null, .null] [] z Q :=
  tq_lp_T (σ := Int64 × Int32 × tq_S) (s := (a1, a7, z)) (G := fun s => tq_T K 89 x mm_X4_chosenNumber 53 [.ref 28, .long s.1, .null, .long a3, .null, .int a5, .null, .int s.2.1, .null, .null] [] s.2.2 Q) (fun B hB s h => ab_X4_chosenNumber_53 hB10 (fun b1 b7 z h => hB (b1, b7, z) h) h) h
def wc_X4_chosenNumber_51 (B10 : Int64 → Int64 → Int32 → tq_S → Prop) (Q : tq_O → tq_S → Prop) (a1 : Int64) (a3 : Int64) (a5 : Int32) (s0 : Int32) (z : tq_S) : Prop := wc_X4_chosenNumber_53 B10 Q a1 a3 a5 s0 z
theorem ac_X4_chosenNumber_51 {K : Nat × (Nat → Int32)} {x : Nat} {Q : tq_O → tq_S → Prop} {B10 : Int64 → Int64 → Int32 → tq_S → Prop} {a1 : Int64} {a3 : Int64} {a5 : Int32} {s0 : Int32} {z : tq_S} (hB10 : ∀ (b1 : Int64) (b3 : Int64) (b5 : Int32) (z : tq_S), B10 b1 b3 b5 z → tq_T K 89 x mm_X4_chosenNumber 10 [.ref 28, .long b1, .null, .long b3, .null, .int b5, .null, .null, .null, .null] [] z Q) (h : wc_X4_chosenNumber_51 B10 Q a1 a3 a5 s0 z) : tq_T K 89 x mm_X4_chosenNumber 51 [.ref 28, .long a1, .null, .long a3, .null, .int a5, .null, .null, .null, .null] [.int s0] z Q := by
  unfold wc_X4_chosenNumber_51 at h
  refine tq_s_istore (i := 7) (L9 := [.ref 28, .long a1, .null, .long a3, .null, .int a5, .null, .int s0, .null, .null]) (by decide +kernel) (by decide) rfl ?_
  exact ac_X4_chosenNumber_53 hB10 h
def wc_X4_chosenNumber_156 (Q : tq_O → tq_S → Prop) (a1 : Int64) (a3 : Int64) (z : tq_S) : Prop := (((0 : Int64) ≤ a3 → Q (.inl (some (.long a1))) z) ∧ (¬ (0 : Int64) ≤ a3 → Q (.inl (some (.long (-1 : Int64)))) z))
theorem ac_X4_chosenNumber_156 {K : Nat × (Nat → Int32)} {x : Nat} {Q : tq_O → tq_S → Prop} {a1 : Int64} {a3 : Int64} {z : tq_S} (h : wc_X4_chosenNumber_156 Q a1 a3 z) : tq_T K 89 x mm_X4_chosenNumber 156 [.null, .long a1, .null, .long a3, .null, .null, .null, .null, .null, .null] [] z Q := by
  unfold wc_X4_chosenNumber_156 at h
  refine tq_s_lload_n (kk := 3) (by decide +kernel) rfl ?_
  refine tq_k_lc (n := 0) (v := (0 : Int64)) (by decide +kernel) (by decide +kernel) ?_
  refine tq_lcmp_ge (off := 9) (tgt := 168) (by decide +kernel) (by decide +kernel) (by decide +kernel) (fun hc => ?_) (fun hc => ?_)
  · replace h := h.1 hc
    refine tq_s_lload_n (kk := 1) (by decide +kernel) rfl ?_
    exact tq_ret_l (st := []) (by decide +kernel) rfl h
  · replace h := h.2 hc
    refine tq_s_ldc2 (i := 78) (v := (-1 : Int64)) (by decide +kernel) (by decide +kernel) ?_
    refine tq_s_goto (off := 4) (tgt := 169) (by decide +kernel) (by decide +kernel) ?_
    exact tq_ret_l (st := []) (by decide +kernel) rfl h
def wb_X4_chosenNumber_10 (B10 : Int64 → Int64 → Int32 → tq_S → Prop) (Q : tq_O → tq_S → Prop) (a1 : Int64) (a3 : Int64) (a5 : Int32) (z : tq_S) : Prop := (((tq_fi z 1803) ≤ a5 → wc_X4_chosenNumber_156 Q a1 a3 z) ∧ (¬ (tq_fi z 1803) ≤ a5 → ((a3 < (0 : Int64) → wc_X4_chosenNumber_156 Q a1 a3 z) ∧ (¬ a3 < (0 : Int64) → wm_X4_firstOpen a3 z (tq_wi fun r102 z101 => (((tq_fi z101 1804) ≤ r102 → wc_X4_chosenNumber_51 B10 Q a1 a3 a5 (0 : Int32) z101) ∧ (¬ (tq_fi z101 1804) ≤ r102 → vp_in r102 25 ∧ wc_X4_chosenNumber_51 B10 Q a1 a3 a5 (tq_ai z101 30 (Int32.toNatClampNeg r102)) z101)))))))
def wc_X4_chosenNumber_10 (Q : tq_O → tq_S → Prop) (a1 : Int64) (a3 : Int64) (a5 : Int32) (z : tq_S) : Prop := tq_lp (σ := Int64 × Int64 × Int32 × tq_S) (fun B s => wb_X4_chosenNumber_10 (fun b1 b3 b5 z => B (b1, b3, b5, z)) Q s.1 s.2.1 s.2.2.1 s.2.2.2) (a1, a3, a5, z)
theorem ab_X4_chosenNumber_10 {K : Nat × (Nat → Int32)} {x : Nat} {Q : tq_O → tq_S → Prop} {B10 : Int64 → Int64 → Int32 → tq_S → Prop} {a1 : Int64} {a3 : Int64} {a5 : Int32} {z : tq_S} (hB10 : ∀ (b1 : Int64) (b3 : Int64) (b5 : Int32) (z : tq_S), B10 b1 b3 b5 z → tq_T K 89 x mm_X4_chosenNumber 10 [.ref 28, .long b1, .null, .long b3, .null, .int b5, .null, .null, .null, .null] [] z Q) (h : wb_X4_chosenNumber_10 B10 Q a1 a3 a5 z) : tq_T K 89 x mm_X4_chosenNumber 10 [.ref 28, .long a1, .null, .long a3, .null, .int a5, .null, .null, .null, .null] [] z Q := by
  unfold wb_X4_chosenNumber_10 at h
  refine tq_s_iload (i := 5) (by decide +kernel) rfl ?_
  refine tq_s_aload_n (kk := 0) (by decide +kernel) rfl ?_
  refine fg_4_224_28 rfl (by decide +kernel) ?_
  refine tq_icmp_ge (off := 140) (tgt := 156) (by decide +kernel) (by decide +kernel) (fun hc => ?_) (fun hc => ?_)
  · replace h := h.1 hc
    exact tq_to (tq_ld1 (tq_lk1 (tq_lk1 (tq_lk1 (tq_lk1 (tq_ld1 (tq_lk1 (tq_lk1 (tq_lk1 (tq_lk1 tq_l0)))))))))) (ac_X4_chosenNumber_156 h)
  · replace h := h.2 hc
    refine tq_s_lload_n (kk := 3) (by decide +kernel) rfl ?_
    refine tq_k_lc (n := 0) (v := (0 : Int64)) (by decide +kernel) (by decide +kernel) ?_
    refine tq_lcmp_lt (off := 134) (tgt := 156) (by decide +kernel) (by decide +kernel) (by decide +kernel) (fun hc => ?_) (fun hc => ?_)
    · replace h := h.1 hc
      exact tq_to (tq_ld1 (tq_lk1 (tq_lk1 (tq_lk1 (tq_lk1 (tq_ld1 (tq_lk1 (tq_lk1 (tq_lk1 (tq_lk1 tq_l0)))))))))) (ac_X4_chosenNumber_156 h)
    · replace h := h.2 hc
      refine tq_s_lload_n (kk := 3) (by decide +kernel) rfl ?_
      refine tq_callS (as := [.long a3]) (st := []) (d1 := 1) (x1 := 0) (x2 := x) (by decide +kernel) ln_4_207 mf_X4_firstOpen rfl (by decide) np_X4_firstOpen rfl (Nat.le_of_ble_eq_true rfl) (by decide) (Nat.zero_add _).symm (tq_M_mono (am_X4_firstOpen h) ?_)
      refine tq_wi_e (fun r102 z101 h => ?_)
      refine tq_s_istore (i := 6) (L9 := [.ref 28, .long a1, .null, .long a3, .null, .int a5, .int r102, .null, .null, .null]) (by decide +kernel) (by decide) rfl ?_
      refine tq_s_iload (i := 6) (by decide +kernel) rfl ?_
      refine tq_s_aload_n (kk := 0) (by decide +kernel) rfl ?_
      refine fg_4_84_28 rfl (by decide +kernel) ?_
      refine tq_icmp_ge (off := 13) (tgt := 50) (by decide +kernel) (by decide +kernel) (fun hc => ?_) (fun hc => ?_)
      · replace h := h.1 hc
        refine tq_k_ic (n := 0) (v := (0 : Int32)) (by decide +kernel) kc_0 ?_
        exact tq_to (tq_lk1 (tq_lk1 (tq_lk1 (tq_lk1 (tq_lk1 (tq_lk1 (tq_ld1 (tq_lk1 (tq_lk1 (tq_lk1 tq_l0)))))))))) (ac_X4_chosenNumber_51 hB10 h)
      · replace h := h.2 hc
        refine tq_s_aload_n (kk := 0) (by decide +kernel) rfl ?_
        refine fg_4_23_28 rfl (by decide +kernel) ?_
        refine tq_s_iload (i := 6) (by decide +kernel) rfl ?_
        refine tq_s_iald (by decide +kernel) sh_30 h.1 ?_
        replace h := h.2
        refine tq_s_goto (off := 4) (tgt := 51) (by decide +kernel) (by decide +kernel) ?_
        exact tq_to (tq_lk1 (tq_lk1 (tq_lk1 (tq_lk1 (tq_lk1 (tq_lk1 (tq_ld1 (tq_lk1 (tq_lk1 (tq_lk1 tq_l0)))))))))) (ac_X4_chosenNumber_51 hB10 h)
theorem ac_X4_chosenNumber_10 {K : Nat × (Nat → Int32)} {x : Nat} {Q : tq_O → tq_S → Prop} {a1 : Int64} {a3 : Int64} {a5 : Int32} {z : tq_S} (h : wc_X4_chosenNumber_10 Q a1 a3 a5 z) : tq_T K 89 x mm_X4_chosenNumber 10 [.ref 28, .long a1, .null, .long a3, .null, .int a5, .null, .null, .null, .null] [] z Q :=
  tq_lp_T (σ := Int64 × Int64 × Int32 × tq_S) (s := (a1, a3, a5, z)) (G := fun s => tq_T K 89 x mm_X4_chosenNumber 10 [.ref 28, .long s.1, .null, .long s.2.1, .null, .int s.2.2.1, .null, .null, .null, .null] [] s.2.2.2 Q) (fun B hB s h => ab_X4_chosenNumber_10 (fun b1 b3 b5 z h => hB (b1, b3, b5, z) h) h) h
def wm_X4_chosenNumber  (z : tq_S) (Q : tq_O → tq_S → Prop) : Prop := wm_X4_beginning z (tq_wl fun r2 z1 => wc_X4_chosenNumber_10 Q (0 : Int64) r2 (0 : Int32) z1)
theorem am_X4_chosenNumber {K : Nat × (Nat → Int32)} {x : Nat} {z : tq_S} {Q : tq_O → tq_S → Prop}  (h : wm_X4_chosenNumber z Q) : tq_M K 89 x mm_X4_chosenNumber [.ref 28] z Q := by
  unfold wm_X4_chosenNumber at h
  refine tq_enter (L := [.ref 28, .null, .null, .null, .null, .null, .null, .null, .null, .null]) mf_X4_chosenNumber.1 rfl rfl (Nat.le_of_ble_eq_true rfl) ?_
  refine tq_k_lc (n := 0) (v := (0 : Int64)) (by decide +kernel) (by decide +kernel) ?_
  refine tq_s_lstore_n (kk := 1) (L9 := [.ref 28, .long (0 : Int64), .null, .null, .null, .null, .null, .null, .null, .null]) (by decide +kernel) (by decide) rfl ?_
  refine tq_s_aload_n (kk := 0) (by decide +kernel) rfl ?_
  refine tq_callV (as := []) (st := []) (d1 := 2) (x1 := 0) (x2 := x) (by decide +kernel) ln_4_96 mf_X4_beginning rfl sh_28 rfl (by decide) np_X4_beginning rfl (Nat.le_of_ble_eq_true rfl) (by decide) (Nat.zero_add _).symm (tq_M_mono (am_X4_beginning h) ?_)
  refine tq_wl_e (fun r2 z1 h => ?_)
  refine tq_s_lstore_n (kk := 3) (L9 := [.ref 28, .long (0 : Int64), .null, .long r2, .null, .null, .null, .null, .null, .null]) (by decide +kernel) (by decide) rfl ?_
  refine tq_k_ic (n := 0) (v := (0 : Int32)) (by decide +kernel) kc_0 ?_
  refine tq_s_istore (i := 5) (L9 := [.ref 28, .long (0 : Int64), .null, .long r2, .null, .int (0 : Int32), .null, .null, .null, .null]) (by decide +kernel) (by decide) rfl ?_
  exact ac_X4_chosenNumber_10 h
def wb_X11_exactIsSound_23 (B23 : Int32 → tq_S → Prop) (Q : tq_O → tq_S → Prop) (a1 : Int32) (z : tq_S) : Prop := (((12 : Int32) < a1 → Q (.inl (some (.int (1 : Int32)))) z) ∧ (¬ (12 : Int32) < a1 → (((tq_fl z 1809) ≤ (0 : Int64) → Q (.inl (some (.int (1 : Int32)))) z) ∧ (¬ (tq_fl z 1809) ≤ (0 : Int64) → ∀ v101 : Int64, v101 = ((((tq_fl z 1809) - (1 : Int64)) * (Int32.toInt64 a1)) / (12 : Int64)) → wm_X4_choose v101 z (tq_wv fun z102 => wm_X4_chosenNumber z102 (tq_wl fun r104 z103 => ((r104 = v101 → ∀ v105 : Int32, v105 = a1 + (1 : Int32) → B23 v105 z103) ∧ (¬ r104 = v101 → Q (.inl (some (.int (0 : Int32)))) z103))))))))
def wc_X11_exactIsSound_23 (Q : tq_O → tq_S → Prop) (a1 : Int32) (z : tq_S) : Prop := tq_lp (σ := Int32 × tq_S) (fun B s => wb_X11_exactIsSound_23 (fun b1 z => B (b1, z)) Q s.1 s.2) (a1, z)
theorem ab_X11_exactIsSound_23 {K : Nat × (Nat → Int32)} {x : Nat} {Q : tq_O → tq_S → Prop} {B23 : Int32 → tq_S → Prop} {a1 : Int32} {z : tq_S} (hB23 : ∀ (b1 : Int32) (z : tq_S), B23 b1 z → tq_T K 90 x mm_X11_exactIsSound 23 [.ref 0, .int b1, .null, .null] [] z Q) (h : wb_X11_exactIsSound_23 B23 Q a1 z) : tq_T K 90 x mm_X11_exactIsSound 23 [.ref 0, .int a1, .null, .null] [] z Q := by
  unfold wb_X11_exactIsSound_23 at h
  refine tq_s_iload_n (kk := 1) (by decide +kernel) rfl ?_
  refine tq_k_bi (n := 12) (v := (12 : Int32)) (by decide +kernel) kb_12 ?_
  refine tq_icmp_gt (off := 60) (tgt := 86) (by decide +kernel) (by decide +kernel) (fun hc => ?_) (fun hc => ?_)
  · replace h := h.1 hc
    refine tq_k_ic (n := 1) (v := (1 : Int32)) (by decide +kernel) kc_1 ?_
    exact tq_ret_z (st := []) (ty := .boolean) (by decide +kernel) (by decide +kernel) rfl h
  · replace h := h.2 hc
    refine tq_s_aload_n (kk := 0) (by decide +kernel) rfl ?_
    refine fg_11_65_0 rfl (by decide +kernel) ?_
    refine fg_11_373_28 rfl (by decide +kernel) ?_
    refine tq_k_lc (n := 0) (v := (0 : Int64)) (by decide +kernel) (by decide +kernel) ?_
    refine tq_lcmp_le (off := 48) (tgt := 86) (by decide +kernel) (by decide +kernel) (by decide +kernel) (fun hc => ?_) (fun hc => ?_)
    · replace h := h.1 hc
      refine tq_k_ic (n := 1) (v := (1 : Int32)) (by decide +kernel) kc_1 ?_
      exact tq_ret_z (st := []) (ty := .boolean) (by decide +kernel) (by decide +kernel) rfl h
    · replace h := h.2 hc
      refine tq_s_aload_n (kk := 0) (by decide +kernel) rfl ?_
      refine fg_11_65_0 rfl (by decide +kernel) ?_
      refine fg_11_373_28 rfl (by decide +kernel) ?_
      refine tq_k_lc (n := 1) (v := (1 : Int64)) (by decide +kernel) (by decide +kernel) ?_
      refine tq_s_lsub (by decide +kernel) ?_
      refine tq_s_iload_n (kk := 1) (by decide +kernel) rfl ?_
      refine tq_s_i2l (by decide +kernel) ?_
      refine tq_s_lmul (by decide +kernel) ?_
      refine tq_s_ldc2 (i := 492) (v := (12 : Int64)) (by decide +kernel) (by decide +kernel) ?_
      refine tq_s_ldiv (by decide +kernel) (by decide +kernel) ?_
      refine tq_g_lstore_n (kk := 2) (fun v101 => [.ref 0, .int a1, .long v101, .null]) (by decide +kernel) (by decide) (fun _ => rfl) (fun v101 ev101 => ?_)
      replace h := h v101 ev101
      refine tq_s_aload_n (kk := 0) (by decide +kernel) rfl ?_
      refine fg_11_65_0 rfl (by decide +kernel) ?_
      refine tq_s_lload_n (kk := 2) (by decide +kernel) rfl ?_
      refine tq_callVN (as := [.long v101]) (st := []) (d1 := 89) (x1 := 0) (x2 := x) (by decide +kernel) ln_11_382 mf_X4_choose rfl sh_28 rfl (by decide) np_X4_choose rfl (Nat.le_of_ble_eq_true rfl) (by decide) (Nat.zero_add _).symm (tq_M_mono (am_X4_choose h) ?_)
      refine tq_wv_e (fun z102 h => ?_)
      refine tq_s_aload_n (kk := 0) (by decide +kernel) rfl ?_
      refine fg_11_65_0 rfl (by decide +kernel) ?_
      refine tq_callVN (as := []) (st := []) (d1 := 89) (x1 := 0) (x2 := x) (by decide +kernel) ln_11_494 mf_X4_chosenNumber rfl sh_28 rfl (by decide) np_X4_chosenNumber rfl (Nat.le_of_ble_eq_true rfl) (by decide) (Nat.zero_add _).symm (tq_M_mono (am_X4_chosenNumber h) ?_)
      refine tq_wl_e (fun r104 z103 h => ?_)
      refine tq_s_lload_n (kk := 2) (by decide +kernel) rfl ?_
      refine tq_lcmp_eq (off := 5) (tgt := 80) (by decide +kernel) (by decide +kernel) (by decide +kernel) (fun hc => ?_) (fun hc => ?_)
      · replace h := h.1 hc
        refine tq_g_iinc (i := 1) (fun v105 => [.ref 0, .int v105, .long v101, .null]) (by decide +kernel) rfl (1 : Int32) kc_1 (fun _ => rfl) (fun v105 ev105 => ?_)
        replace h := h v105 ev105
        refine tq_s_goto (off := -60) (tgt := 23) (by decide +kernel) (by decide +kernel) ?_
        exact tq_to (tq_lk1 (tq_lk1 (tq_ld1 (tq_lk1 tq_l0)))) (hB23 _ _ h)
      · replace h := h.2 hc
        refine tq_k_ic (n := 0) (v := (0 : Int32)) (by decide +kernel) kc_0 ?_
        exact tq_ret_z (st := []) (ty := .boolean) (by decide +kernel) (by decide +kernel) rfl h
theorem ac_X11_exactIsSound_23 {K : Nat × (Nat → Int32)} {x : Nat} {Q : tq_O → tq_S → Prop} {a1 : Int32} {z : tq_S} (h : wc_X11_exactIsSound_23 Q a1 z) : tq_T K 90 x mm_X11_exactIsSound 23 [.ref 0, .int a1, .null, .null] [] z Q :=
  tq_lp_T (σ := Int32 × tq_S) (s := (a1, z)) (G := fun s => tq_T K 90 x mm_X11_exactIsSound 23 [.ref 0, .int s.1, .null, .null] [] s.2 Q) (fun B hB s h => ab_X11_exactIsSound_23 (fun b1 z h => hB (b1, z) h) h) h
def wm_X11_exactIsSound  (z : tq_S) (Q : tq_O → tq_S → Prop) : Prop := wm_X1_size z (tq_wi fun r2 z1 => ((r2 ≤ (24 : Int32) → wm_X4_refresh z1 (tq_wv fun z3 => wc_X11_exactIsSound_23 Q (0 : Int32) z3)) ∧ (¬ r2 ≤ (24 : Int32) → Q (.inl (some (.int (1 : Int32)))) z1)))
theorem am_X11_exactIsSound {K : Nat × (Nat → Int32)} {x : Nat} {z : tq_S} {Q : tq_O → tq_S → Prop}  (h : wm_X11_exactIsSound z Q) : tq_M K 90 x mm_X11_exactIsSound [.ref 0] z Q := by
  unfold wm_X11_exactIsSound at h
  refine tq_enter (L := [.ref 0, .null, .null, .null]) mf_X11_exactIsSound.1 rfl rfl (Nat.le_of_ble_eq_true rfl) ?_
  refine tq_s_aload_n (kk := 0) (by decide +kernel) rfl ?_
  refine fg_11_10_0 rfl (by decide +kernel) ?_
  refine tq_callVN (as := []) (st := []) (d1 := 1) (x1 := 0) (x2 := x) (by decide +kernel) ln_11_123 mf_X1_size rfl sh_1 rfl (by decide) np_X1_size rfl (Nat.le_of_ble_eq_true rfl) (by decide) (Nat.zero_add _).symm (tq_M_mono (am_X1_size h) ?_)
  refine tq_wi_e (fun r2 z1 h => ?_)
  refine tq_k_bi (n := 24) (v := (24 : Int32)) (by decide +kernel) kb_24 ?_
  refine tq_icmp_le (off := 5) (tgt := 14) (by decide +kernel) (by decide +kernel) (fun hc => ?_) (fun hc => ?_)
  · replace h := h.1 hc
    refine tq_s_aload_n (kk := 0) (by decide +kernel) rfl ?_
    refine fg_11_65_0 rfl (by decide +kernel) ?_
    refine tq_callVN (as := []) (st := []) (d1 := 89) (x1 := 0) (x2 := x) (by decide +kernel) ln_11_372 mf_X4_refresh rfl sh_28 rfl (by decide) np_X4_refresh rfl (Nat.le_of_ble_eq_true rfl) (by decide) (Nat.zero_add _).symm (tq_M_mono (am_X4_refresh h) ?_)
    refine tq_wv_e (fun z3 h => ?_)
    refine tq_k_ic (n := 0) (v := (0 : Int32)) (by decide +kernel) kc_0 ?_
    refine tq_s_istore_n (kk := 1) (L9 := [.ref 0, .int (0 : Int32), .null, .null]) (by decide +kernel) (by decide) rfl ?_
    exact ac_X11_exactIsSound_23 h
  · replace h := h.2 hc
    refine tq_k_ic (n := 1) (v := (1 : Int32)) (by decide +kernel) kc_1 ?_
    exact tq_ret_z (st := []) (ty := .boolean) (by decide +kernel) (by decide +kernel) rfl h
def wb_X0_addLimbs_r1_5 (B5 : Int64 → Int32 → tq_S → Prop) (Q : tq_O → tq_S → Prop) (a3 : Int64) (a5 : Int32) (z : tq_S) : Prop := (((3 : Int32) ≤ a5 → Q (.inl none) z) ∧ (¬ (3 : Int32) ≤ a5 → ((a3 ≤ (0 : Int64) → Q (.inl none) z) ∧ (¬ a3 ≤ (0 : Int64) → (((34 : Int32) ≤ (tq_fi z 3073) → Q (.inl none) z) ∧ (¬ (34 : Int32) ≤ (tq_fi z 3073) → vp_in (tq_fi z 3073) 34 ∧ ∀ z101 : tq_S, z101 = tq_sai z 49 (upd (tq_ai z 49) (Int32.toNatClampNeg (tq_fi z 3073)) (Int64.toInt32 (a3 - a3 / (1000000000 : Int64) * (1000000000 : Int64)))) → ∀ v102 : Int64, v102 = (a3 / (1000000000 : Int64)) → ∀ z103 : tq_S, z103 = tq_sfi z101 3073 ((tq_fi z101 3073) + (1 : Int32)) → ∀ v104 : Int32, v104 = a5 + (1 : Int32) → B5 v102 v104 z103))))))
def wc_X0_addLimbs_r1_5 (Q : tq_O → tq_S → Prop) (a3 : Int64) (a5 : Int32) (z : tq_S) : Prop := tq_lp (σ := Int64 × Int32 × tq_S) (fun B s => wb_X0_addLimbs_r1_5 (fun b3 b5 z => B (b3, b5, z)) Q s.1 s.2.1 s.2.2) (a3, a5, z)
theorem ab_X0_addLimbs_r1_5 {K : Nat × (Nat → Int32)} {x : Nat} {Q : tq_O → tq_S → Prop} {B5 : Int64 → Int32 → tq_S → Prop} {a3 : Int64} {a5 : Int32} {z : tq_S} (hB5 : ∀ (b3 : Int64) (b5 : Int32) (z : tq_S), B5 b3 b5 z → tq_T K 0 x mm_X0_addLimbs 5 [.ref 48, .null, .null, .long b3, .null, .int b5] [] z Q) (h : wb_X0_addLimbs_r1_5 B5 Q a3 a5 z) : tq_T K 0 x mm_X0_addLimbs 5 [.ref 48, .null, .null, .long a3, .null, .int a5] [] z Q := by
  unfold wb_X0_addLimbs_r1_5 at h
  refine tq_s_iload (i := 5) (by decide +kernel) rfl ?_
  refine tq_k_ic (n := 3) (v := (3 : Int32)) (by decide +kernel) kc_3 ?_
  refine tq_icmp_ge (off := 55) (tgt := 63) (by decide +kernel) (by decide +kernel) (fun hc => ?_) (fun hc => ?_)
  · replace h := h.1 hc
    exact tq_ret_v (st := []) (by decide +kernel) rfl h
  · replace h := h.2 hc
    refine tq_s_lload_n (kk := 3) (by decide +kernel) rfl ?_
    refine tq_k_lc (n := 0) (v := (0 : Int64)) (by decide +kernel) (by decide +kernel) ?_
    refine tq_lcmp_le (off := 49) (tgt := 63) (by decide +kernel) (by decide +kernel) (by decide +kernel) (fun hc => ?_) (fun hc => ?_)
    · replace h := h.1 hc
      exact tq_ret_v (st := []) (by decide +kernel) rfl h
    · replace h := h.2 hc
      refine tq_s_aload_n (kk := 0) (by decide +kernel) rfl ?_
      refine fg_0_13_48 rfl (by decide +kernel) ?_
      refine tq_k_bi (n := 34) (v := (34 : Int32)) (by decide +kernel) kb_34 ?_
      refine tq_icmp_ge (off := 40) (tgt := 63) (by decide +kernel) (by decide +kernel) (fun hc => ?_) (fun hc => ?_)
      · replace h := h.1 hc
        exact tq_ret_v (st := []) (by decide +kernel) rfl h
      · replace h := h.2 hc
        refine tq_s_aload_n (kk := 0) (by decide +kernel) rfl ?_
        refine fg_0_9_48 rfl (by decide +kernel) ?_
        refine tq_s_aload_n (kk := 0) (by decide +kernel) rfl ?_
        refine fg_0_13_48 rfl (by decide +kernel) ?_
        refine tq_s_lload_n (kk := 3) (by decide +kernel) rfl ?_
        refine tq_s_ldc2 (i := 31) (v := (1000000000 : Int64)) (by decide +kernel) (by decide +kernel) ?_
        refine tq_s_lrem (by decide +kernel) (by decide +kernel) ?_
        refine tq_s_l2i (by decide +kernel) ?_
        refine tq_g_iast (by decide +kernel) sh_49 h.1 (fun z101 ez101 => ?_)
        replace h := h.2 z101 ez101
        refine tq_s_lload_n (kk := 3) (by decide +kernel) rfl ?_
        refine tq_s_ldc2 (i := 31) (v := (1000000000 : Int64)) (by decide +kernel) (by decide +kernel) ?_
        refine tq_s_ldiv (by decide +kernel) (by decide +kernel) ?_
        refine tq_g_lstore_n (kk := 3) (fun v102 => [.ref 48, .null, .null, .long v102, .null, .int a5]) (by decide +kernel) (by decide) (fun _ => rfl) (fun v102 ev102 => ?_)
        replace h := h v102 ev102
        refine tq_s_aload_n (kk := 0) (by decide +kernel) rfl ?_
        refine tq_s_dup (by decide +kernel) rfl ?_
        refine fg_0_13_48 rfl (by decide +kernel) ?_
        refine tq_k_ic (n := 1) (v := (1 : Int32)) (by decide +kernel) kc_1 ?_
        refine tq_s_iadd (by decide +kernel) ?_
        refine fp_0_13_48 rfl (by decide +kernel) (fun z103 ez103 => ?_)
        replace h := h z103 ez103
        refine tq_g_iinc (i := 5) (fun v104 => [.ref 48, .null, .null, .long v102, .null, .int v104]) (by decide +kernel) rfl (1 : Int32) kc_1 (fun _ => rfl) (fun v104 ev104 => ?_)
        replace h := h v104 ev104
        refine tq_s_goto (off := -55) (tgt := 5) (by decide +kernel) (by decide +kernel) ?_
        exact hB5 _ _ _ h
theorem ac_X0_addLimbs_r1_5 {K : Nat × (Nat → Int32)} {x : Nat} {Q : tq_O → tq_S → Prop} {a3 : Int64} {a5 : Int32} {z : tq_S} (h : wc_X0_addLimbs_r1_5 Q a3 a5 z) : tq_T K 0 x mm_X0_addLimbs 5 [.ref 48, .null, .null, .long a3, .null, .int a5] [] z Q :=
  tq_lp_T (σ := Int64 × Int32 × tq_S) (s := (a3, a5, z)) (G := fun s => tq_T K 0 x mm_X0_addLimbs 5 [.ref 48, .null, .null, .long s.1, .null, .int s.2.1] [] s.2.2 Q) (fun B hB s h => ab_X0_addLimbs_r1_5 (fun b3 b5 z h => hB (b3, b5, z) h) h) h
def wm_X0_addLimbs_r1 (a1 : Int64) (z : tq_S) (Q : tq_O → tq_S → Prop) : Prop := wc_X0_addLimbs_r1_5 Q a1 (0 : Int32) z
theorem am_X0_addLimbs_r1 {K : Nat × (Nat → Int32)} {x : Nat} {z : tq_S} {Q : tq_O → tq_S → Prop} {a1 : Int64} (h : wm_X0_addLimbs_r1 a1 z Q) : tq_M K 0 x mm_X0_addLimbs [.ref 48, .long a1] z Q := by
  unfold wm_X0_addLimbs_r1 at h
  refine tq_enter (L := [.ref 48, .long a1, .null, .null, .null, .null]) mf_X0_addLimbs.1 rfl rfl (Nat.le_of_ble_eq_true rfl) ?_
  refine tq_s_lload_n (kk := 1) (by decide +kernel) rfl ?_
  refine tq_s_lstore_n (kk := 3) (L9 := [.ref 48, .long a1, .null, .long a1, .null, .null]) (by decide +kernel) (by decide) rfl ?_
  refine tq_k_ic (n := 0) (v := (0 : Int32)) (by decide +kernel) kc_0 ?_
  refine tq_s_istore (i := 5) (L9 := [.ref 48, .long a1, .null, .long a1, .null, .int (0 : Int32)]) (by decide +kernel) (by decide) rfl ?_
  exact tq_to (tq_lk1 (tq_ld1 (tq_lk1 (tq_lk1 (tq_lk1 (tq_lk1 tq_l0)))))) (ac_X0_addLimbs_r1_5 h)
def wc_X0_put_r1_12 (Q : tq_O → tq_S → Prop) (a1 : Int64) (s0 : Int32) (z : tq_S) : Prop := tq_nz s0 ∧ ∀ z101 : tq_S, z101 = tq_sfi z 3074 s0 → ∀ z102 : tq_S, z102 = tq_sfi z101 3073 (0 : Int32) → wm_J9_abs_067f4 a1 z102 (tq_wl fun r104 z103 => wm_X0_addLimbs_r1 r104 z103 (tq_wv fun z105 => Q (.inl none) z105))
theorem ac_X0_put_r1_12 {K : Nat × (Nat → Int32)} {x : Nat} {Q : tq_O → tq_S → Prop} {a1 : Int64} {s0 : Int32} {z : tq_S} (h : wc_X0_put_r1_12 Q a1 s0 z) : tq_T K 1 x mm_X0_put 12 [.ref 48, .long a1, .null] [.int s0, .ref 48] z Q := by
  unfold wc_X0_put_r1_12 at h
  refine fp_0_17_48 rfl (by decide +kernel) (tq_nz_f h.1) (fun z101 ez101 => ?_)
  replace h := h.2 z101 ez101
  refine tq_s_aload_n (kk := 0) (by decide +kernel) rfl ?_
  refine tq_k_ic (n := 0) (v := (0 : Int32)) (by decide +kernel) kc_0 ?_
  refine fp_0_13_48 rfl (by decide +kernel) (fun z102 ez102 => ?_)
  replace h := h z102 ez102
  refine tq_s_aload_n (kk := 0) (by decide +kernel) rfl ?_
  refine tq_s_lload_n (kk := 1) (by decide +kernel) rfl ?_
  refine tq_callS (as := [.long a1]) (st := [.ref 48]) (d1 := 0) (x1 := 0) (x2 := x) (by decide +kernel) ln_0_21 mf_J9_abs_067f4 rfl (by decide) np_J9_abs_067f4 rfl (Nat.le_of_ble_eq_true rfl) (by decide) (Nat.zero_add _).symm (tq_M_mono (am_J9_abs_067f4 h) ?_)
  refine tq_wl_e (fun r104 z103 h => ?_)
  refine tq_callV (as := [.long r104]) (st := []) (d1 := 0) (x1 := 0) (x2 := x) (by decide +kernel) ln_0_27 mf_X0_addLimbs rfl sh_48 rfl (by decide) np_X0_addLimbs rfl (Nat.le_of_ble_eq_true rfl) (by decide) (Nat.zero_add _).symm (tq_M_mono (am_X0_addLimbs_r1 h) ?_)
  refine tq_wv_e (fun z105 h => ?_)
  exact tq_ret_v (st := []) (by decide +kernel) rfl h
def wm_X0_put_r1 (a1 : Int64) (z : tq_S) (Q : tq_O → tq_S → Prop) : Prop := (((0 : Int64) ≤ a1 → wc_X0_put_r1_12 Q a1 (0 : Int32) z) ∧ (¬ (0 : Int64) ≤ a1 → wc_X0_put_r1_12 Q a1 (1 : Int32) z))
theorem am_X0_put_r1 {K : Nat × (Nat → Int32)} {x : Nat} {z : tq_S} {Q : tq_O → tq_S → Prop} {a1 : Int64} (h : wm_X0_put_r1 a1 z Q) : tq_M K 1 x mm_X0_put [.ref 48, .long a1] z Q := by
  unfold wm_X0_put_r1 at h
  refine tq_enter (L := [.ref 48, .long a1, .null]) mf_X0_put.1 rfl rfl (Nat.le_of_ble_eq_true rfl) ?_
  refine tq_s_aload_n (kk := 0) (by decide +kernel) rfl ?_
  refine tq_s_lload_n (kk := 1) (by decide +kernel) rfl ?_
  refine tq_k_lc (n := 0) (v := (0 : Int64)) (by decide +kernel) (by decide +kernel) ?_
  refine tq_lcmp_ge (off := 7) (tgt := 11) (by decide +kernel) (by decide +kernel) (by decide +kernel) (fun hc => ?_) (fun hc => ?_)
  · replace h := h.1 hc
    refine tq_k_ic (n := 0) (v := (0 : Int32)) (by decide +kernel) kc_0 ?_
    exact ac_X0_put_r1_12 h
  · replace h := h.2 hc
    refine tq_k_ic (n := 1) (v := (1 : Int32)) (by decide +kernel) kc_1 ?_
    refine tq_s_goto (off := 4) (tgt := 12) (by decide +kernel) (by decide +kernel) ?_
    exact ac_X0_put_r1_12 h
def wb_X0_isLike_30 (B30 : Int32 → tq_S → Prop) (Q : tq_O → tq_S → Prop) (a2 : Int32) (z : tq_S) : Prop := (((tq_fi z 2945) ≤ a2 → Q (.inl (some (.int (1 : Int32)))) z) ∧ (¬ (tq_fi z 2945) ≤ a2 → vp_in a2 34 ∧ vp_in a2 34 ∧ (((tq_ai z 47 (Int32.toNatClampNeg a2)) = (tq_ai z 49 (Int32.toNatClampNeg a2)) → ∀ v101 : Int32, v101 = a2 + (1 : Int32) → B30 v101 z) ∧ (¬ (tq_ai z 47 (Int32.toNatClampNeg a2)) = (tq_ai z 49 (Int32.toNatClampNeg a2)) → Q (.inl (some (.int (0 : Int32)))) z))))
def wc_X0_isLike_30 (Q : tq_O → tq_S → Prop) (a2 : Int32) (z : tq_S) : Prop := tq_lp (σ := Int32 × tq_S) (fun B s => wb_X0_isLike_30 (fun b2 z => B (b2, z)) Q s.1 s.2) (a2, z)
theorem ab_X0_isLike_30 {K : Nat × (Nat → Int32)} {x : Nat} {Q : tq_O → tq_S → Prop} {B30 : Int32 → tq_S → Prop} {a2 : Int32} {z : tq_S} (hB30 : ∀ (b2 : Int32) (z : tq_S), B30 b2 z → tq_T K 0 x mm_X0_isLike 30 [.ref 46, .ref 48, .int b2] [] z Q) (h : wb_X0_isLike_30 B30 Q a2 z) : tq_T K 0 x mm_X0_isLike 30 [.ref 46, .ref 48, .int a2] [] z Q := by
  unfold wb_X0_isLike_30 at h
  refine tq_s_iload_n (kk := 2) (by decide +kernel) rfl ?_
  refine tq_s_aload_n (kk := 0) (by decide +kernel) rfl ?_
  refine fg_0_13_46 rfl (by decide +kernel) ?_
  refine tq_icmp_ge (off := 26) (tgt := 61) (by decide +kernel) (by decide +kernel) (fun hc => ?_) (fun hc => ?_)
  · replace h := h.1 hc
    refine tq_k_ic (n := 1) (v := (1 : Int32)) (by decide +kernel) kc_1 ?_
    exact tq_ret_z (st := []) (ty := .boolean) (by decide +kernel) (by decide +kernel) rfl h
  · replace h := h.2 hc
    refine tq_s_aload_n (kk := 0) (by decide +kernel) rfl ?_
    refine fg_0_9_46 rfl (by decide +kernel) ?_
    refine tq_s_iload_n (kk := 2) (by decide +kernel) rfl ?_
    refine tq_s_iald (by decide +kernel) sh_47 h.1 ?_
    replace h := h.2
    refine tq_s_aload_n (kk := 1) (by decide +kernel) rfl ?_
    refine fg_0_9_48 rfl (by decide +kernel) ?_
    refine tq_s_iload_n (kk := 2) (by decide +kernel) rfl ?_
    refine tq_s_iald (by decide +kernel) sh_49 h.1 ?_
    replace h := h.2
    refine tq_icmp_eq (off := 5) (tgt := 55) (by decide +kernel) (by decide +kernel) (fun hc => ?_) (fun hc => ?_)
    · replace h := h.1 hc
      refine tq_g_iinc (i := 2) (fun v101 => [.ref 46, .ref 48, .int v101]) (by decide +kernel) rfl (1 : Int32) kc_1 (fun _ => rfl) (fun v101 ev101 => ?_)
      replace h := h v101 ev101
      refine tq_s_goto (off := -28) (tgt := 30) (by decide +kernel) (by decide +kernel) ?_
      exact hB30 _ _ h
    · replace h := h.2 hc
      refine tq_k_ic (n := 0) (v := (0 : Int32)) (by decide +kernel) kc_0 ?_
      exact tq_ret_z (st := []) (ty := .boolean) (by decide +kernel) (by decide +kernel) rfl h
theorem ac_X0_isLike_30 {K : Nat × (Nat → Int32)} {x : Nat} {Q : tq_O → tq_S → Prop} {a2 : Int32} {z : tq_S} (h : wc_X0_isLike_30 Q a2 z) : tq_T K 0 x mm_X0_isLike 30 [.ref 46, .ref 48, .int a2] [] z Q :=
  tq_lp_T (σ := Int32 × tq_S) (s := (a2, z)) (G := fun s => tq_T K 0 x mm_X0_isLike 30 [.ref 46, .ref 48, .int s.1] [] s.2 Q) (fun B hB s h => ab_X0_isLike_30 (fun b2 z h => hB (b2, z) h) h) h
def wm_X0_isLike  (z : tq_S) (Q : tq_O → tq_S → Prop) : Prop := ((¬ (tq_fi z 2945) = (tq_fi z 3073) → Q (.inl (some (.int (0 : Int32)))) z) ∧ ((tq_fi z 2945) = (tq_fi z 3073) → (((tq_fi z 2946) = (tq_fi z 3074) → wc_X0_isLike_30 Q (0 : Int32) z) ∧ (¬ (tq_fi z 2946) = (tq_fi z 3074) → Q (.inl (some (.int (0 : Int32)))) z))))
theorem am_X0_isLike {K : Nat × (Nat → Int32)} {x : Nat} {z : tq_S} {Q : tq_O → tq_S → Prop}  (h : wm_X0_isLike z Q) : tq_M K 0 x mm_X0_isLike [.ref 46, .ref 48] z Q := by
  unfold wm_X0_isLike at h
  refine tq_enter (L := [.ref 46, .ref 48, .null]) mf_X0_isLike.1 rfl rfl (Nat.le_of_ble_eq_true rfl) ?_
  refine tq_s_aload_n (kk := 1) (by decide +kernel) rfl ?_
  refine tq_s_ifnull (o := 25) (by decide +kernel) ?_
  refine tq_s_aload_n (kk := 0) (by decide +kernel) rfl ?_
  refine fg_0_13_46 rfl (by decide +kernel) ?_
  refine tq_s_aload_n (kk := 1) (by decide +kernel) rfl ?_
  refine fg_0_13_48 rfl (by decide +kernel) ?_
  refine tq_icmp_ne (off := 14) (tgt := 26) (by decide +kernel) (by decide +kernel) (fun hc => ?_) (fun hc => ?_)
  · replace h := h.1 hc
    refine tq_k_ic (n := 0) (v := (0 : Int32)) (by decide +kernel) kc_0 ?_
    exact tq_ret_z (st := []) (ty := .boolean) (by decide +kernel) (by decide +kernel) rfl h
  · replace h := h.2 hc
    refine tq_s_aload_n (kk := 0) (by decide +kernel) rfl ?_
    refine fg_0_17_46 rfl (by decide +kernel) ?_
    refine tq_s_aload_n (kk := 1) (by decide +kernel) rfl ?_
    refine fg_0_17_48 rfl (by decide +kernel) ?_
    refine tq_icmp_eq (off := 5) (tgt := 28) (by decide +kernel) (by decide +kernel) (fun hc => ?_) (fun hc => ?_)
    · replace h := h.1 hc
      refine tq_k_ic (n := 0) (v := (0 : Int32)) (by decide +kernel) kc_0 ?_
      refine tq_s_istore_n (kk := 2) (L9 := [.ref 46, .ref 48, .int (0 : Int32)]) (by decide +kernel) (by decide) rfl ?_
      exact ac_X0_isLike_30 h
    · replace h := h.2 hc
      refine tq_k_ic (n := 0) (v := (0 : Int32)) (by decide +kernel) kc_0 ?_
      exact tq_ret_z (st := []) (ty := .boolean) (by decide +kernel) (by decide +kernel) rfl h
def wc_X11_stripsAreSound_66 (B2 : Int32 → tq_S → Prop) (Q : tq_O → tq_S → Prop) (a1 : Int32) (z : tq_S) : Prop := ∀ v101 : Int32, v101 = a1 + (1 : Int32) → B2 v101 z
theorem ac_X11_stripsAreSound_66 {K : Nat × (Nat → Int32)} {x : Nat} {Q : tq_O → tq_S → Prop} {B2 : Int32 → tq_S → Prop} {a1 : Int32} {z : tq_S} (hB2 : ∀ (b1 : Int32) (z : tq_S), B2 b1 z → tq_T K 4 x mm_X11_stripsAreSound 2 [.ref 0, .int b1, .null] [] z Q) (h : wc_X11_stripsAreSound_66 B2 Q a1 z) : tq_T K 4 x mm_X11_stripsAreSound 66 [.ref 0, .int a1, .null] [] z Q := by
  unfold wc_X11_stripsAreSound_66 at h
  refine tq_g_iinc (i := 1) (fun v101 => [.ref 0, .int v101, .null]) (by decide +kernel) rfl (1 : Int32) kc_1 (fun _ => rfl) (fun v101 ev101 => ?_)
  replace h := h v101 ev101
  refine tq_s_goto (off := -67) (tgt := 2) (by decide +kernel) (by decide +kernel) ?_
  exact hB2 _ _ h
def wb_X11_stripsAreSound_9 (B2 : Int32 → tq_S → Prop) (B9 : Int32 → tq_S → Prop) (Q : tq_O → tq_S → Prop) (a1 : Int32) (a2 : Int32) (z : tq_S) : Prop := (((30 : Int32) < a2 → wc_X11_stripsAreSound_66 B2 Q a1 z) ∧ (¬ (30 : Int32) < a2 → wm_X6_byRule a1 a2 z (tq_wv fun z101 => wm_X6_byFront a1 a2 z101 (tq_wl fun r103 z102 => wm_X0_put_r1 r103 z102 (tq_wv fun z104 => wm_X0_isLike z104 (tq_wi fun r106 z105 => ((¬ r106 = 0 → ∀ v107 : Int32, v107 = a2 + (1 : Int32) → B9 v107 z105) ∧ (r106 = 0 → Q (.inl (some (.int (0 : Int32)))) z105))))))))
def wc_X11_stripsAreSound_9 (B2 : Int32 → tq_S → Prop) (Q : tq_O → tq_S → Prop) (a1 : Int32) (a2 : Int32) (z : tq_S) : Prop := tq_lp (σ := Int32 × tq_S) (fun B s => wb_X11_stripsAreSound_9 B2 (fun b2 z => B (b2, z)) Q a1 s.1 s.2) (a2, z)
theorem ab_X11_stripsAreSound_9 {K : Nat × (Nat → Int32)} {x : Nat} {Q : tq_O → tq_S → Prop} {B2 : Int32 → tq_S → Prop} {B9 : Int32 → tq_S → Prop} {a1 : Int32} {a2 : Int32} {z : tq_S} (hB2 : ∀ (b1 : Int32) (z : tq_S), B2 b1 z → tq_T K 4 x mm_X11_stripsAreSound 2 [.ref 0, .int b1, .null] [] z Q) (hB9 : ∀ (b2 : Int32) (z : tq_S), B9 b2 z → tq_T K 4 x mm_X11_stripsAreSound 9 [.ref 0, .int a1, .int b2] [] z Q) (h : wb_X11_stripsAreSound_9 B2 B9 Q a1 a2 z) : tq_T K 4 x mm_X11_stripsAreSound 9 [.ref 0, .int a1, .int a2] [] z Q := by
  unfold wb_X11_stripsAreSound_9 at h
  refine tq_s_iload_n (kk := 2) (by decide +kernel) rfl ?_
  refine tq_k_bi (n := 30) (v := (30 : Int32)) (by decide +kernel) kb_30 ?_
  refine tq_icmp_gt (off := 54) (tgt := 66) (by decide +kernel) (by decide +kernel) (fun hc => ?_) (fun hc => ?_)
  · replace h := h.1 hc
    exact tq_to (tq_lk1 (tq_lk1 (tq_ld1 tq_l0))) (ac_X11_stripsAreSound_66 hB2 h)
  · replace h := h.2 hc
    refine tq_s_aload_n (kk := 0) (by decide +kernel) rfl ?_
    refine fg_11_72_0 rfl (by decide +kernel) ?_
    refine tq_s_iload_n (kk := 1) (by decide +kernel) rfl ?_
    refine tq_s_iload_n (kk := 2) (by decide +kernel) rfl ?_
    refine tq_s_aload_n (kk := 0) (by decide +kernel) rfl ?_
    refine fg_11_86_0 rfl (by decide +kernel) ?_
    refine tq_callVN (as := [.int a1, .int a2, .ref 46]) (st := []) (d1 := 3) (x1 := 0) (x2 := x) (by decide +kernel) ln_11_390 mf_X6_byRule rfl sh_38 rfl (by decide) np_X6_byRule rfl (Nat.le_of_ble_eq_true rfl) (by decide) (Nat.zero_add _).symm (tq_M_mono (am_X6_byRule h) ?_)
    refine tq_wv_e (fun z101 h => ?_)
    refine tq_s_aload_n (kk := 0) (by decide +kernel) rfl ?_
    refine fg_11_90_0 rfl (by decide +kernel) ?_
    refine tq_s_aload_n (kk := 0) (by decide +kernel) rfl ?_
    refine fg_11_72_0 rfl (by decide +kernel) ?_
    refine tq_s_iload_n (kk := 1) (by decide +kernel) rfl ?_
    refine tq_s_iload_n (kk := 2) (by decide +kernel) rfl ?_
    refine tq_callVN (as := [.int a1, .int a2]) (st := [.ref 48]) (d1 := 2) (x1 := 0) (x2 := x) (by decide +kernel) ln_11_497 mf_X6_byFront rfl sh_38 rfl (by decide) np_X6_byFront rfl (Nat.le_of_ble_eq_true rfl) (by decide) (Nat.zero_add _).symm (tq_M_mono (am_X6_byFront h) ?_)
    refine tq_wl_e (fun r103 z102 h => ?_)
    refine tq_callVN (as := [.long r103]) (st := []) (d1 := 1) (x1 := 0) (x2 := x) (by decide +kernel) ln_11_500 mf_X0_put rfl sh_48 rfl (by decide) np_X0_put rfl (Nat.le_of_ble_eq_true rfl) (by decide) (Nat.zero_add _).symm (tq_M_mono (am_X0_put_r1 h) ?_)
    refine tq_wv_e (fun z104 h => ?_)
    refine tq_s_aload_n (kk := 0) (by decide +kernel) rfl ?_
    refine fg_11_86_0 rfl (by decide +kernel) ?_
    refine tq_s_aload_n (kk := 0) (by decide +kernel) rfl ?_
    refine fg_11_90_0 rfl (by decide +kernel) ?_
    refine tq_callVN (as := [.ref 48]) (st := []) (d1 := 0) (x1 := 0) (x2 := x) (by decide +kernel) ln_11_503 mf_X0_isLike rfl sh_46 rfl (by decide) np_X0_isLike rfl (Nat.le_of_ble_eq_true rfl) (by decide) (Nat.zero_add _).symm (tq_M_mono (am_X0_isLike h) ?_)
    refine tq_wi_e (fun r106 z105 h => ?_)
    refine tq_if_ne (off := 5) (tgt := 60) (by decide +kernel) (by decide +kernel) (fun hc => ?_) (fun hc => ?_)
    · replace h := h.1 hc
      refine tq_g_iinc (i := 2) (fun v107 => [.ref 0, .int a1, .int v107]) (by decide +kernel) rfl (1 : Int32) kc_1 (fun _ => rfl) (fun v107 ev107 => ?_)
      replace h := h v107 ev107
      refine tq_s_goto (off := -54) (tgt := 9) (by decide +kernel) (by decide +kernel) ?_
      exact hB9 _ _ h
    · replace h := h.2 hc
      refine tq_k_ic (n := 0) (v := (0 : Int32)) (by decide +kernel) kc_0 ?_
      exact tq_ret_z (st := []) (ty := .boolean) (by decide +kernel) (by decide +kernel) rfl h
theorem ac_X11_stripsAreSound_9 {K : Nat × (Nat → Int32)} {x : Nat} {Q : tq_O → tq_S → Prop} {B2 : Int32 → tq_S → Prop} {a1 : Int32} {a2 : Int32} {z : tq_S} (hB2 : ∀ (b1 : Int32) (z : tq_S), B2 b1 z → tq_T K 4 x mm_X11_stripsAreSound 2 [.ref 0, .int b1, .null] [] z Q) (h : wc_X11_stripsAreSound_9 B2 Q a1 a2 z) : tq_T K 4 x mm_X11_stripsAreSound 9 [.ref 0, .int a1, .int a2] [] z Q :=
  tq_lp_T (σ := Int32 × tq_S) (s := (a2, z)) (G := fun s => tq_T K 4 x mm_X11_stripsAreSound 9 [.ref 0, .int a1, .int s.1] [] s.2 Q) (fun B hB s h => ab_X11_stripsAreSound_9 hB2 (fun b2 z h => hB (b2, z) h) h) h
def wb_X11_stripsAreSound_2 (B2 : Int32 → tq_S → Prop) (Q : tq_O → tq_S → Prop) (a1 : Int32) (z : tq_S) : Prop := (((4 : Int32) < a1 → Q (.inl (some (.int (1 : Int32)))) z) ∧ (¬ (4 : Int32) < a1 → wc_X11_stripsAreSound_9 B2 Q a1 (0 : Int32) z))
def wc_X11_stripsAreSound_2 (Q : tq_O → tq_S → Prop) (a1 : Int32) (z : tq_S) : Prop := tq_lp (σ := Int32 × tq_S) (fun B s => wb_X11_stripsAreSound_2 (fun b1 z => B (b1, z)) Q s.1 s.2) (a1, z)
theorem ab_X11_stripsAreSound_2 {K : Nat × (Nat → Int32)} {x : Nat} {Q : tq_O → tq_S → Prop} {B2 : Int32 → tq_S → Prop} {a1 : Int32} {z : tq_S} (hB2 : ∀ (b1 : Int32) (z : tq_S), B2 b1 z → tq_T K 4 x mm_X11_stripsAreSound 2 [.ref 0, .int b1, .null] [] z Q) (h : wb_X11_stripsAreSound_2 B2 Q a1 z) : tq_T K 4 x mm_X11_stripsAreSound 2 [.ref 0, .int a1, .null] [] z Q := by
  unfold wb_X11_stripsAreSound_2 at h
  refine tq_s_iload_n (kk := 1) (by decide +kernel) rfl ?_
  refine tq_k_ic (n := 4) (v := (4 : Int32)) (by decide +kernel) kc_4 ?_
  refine tq_icmp_gt (off := 68) (tgt := 72) (by decide +kernel) (by decide +kernel) (fun hc => ?_) (fun hc => ?_)
  · replace h := h.1 hc
    refine tq_k_ic (n := 1) (v := (1 : Int32)) (by decide +kernel) kc_1 ?_
    exact tq_ret_z (st := []) (ty := .boolean) (by decide +kernel) (by decide +kernel) rfl h
  · replace h := h.2 hc
    refine tq_k_ic (n := 0) (v := (0 : Int32)) (by decide +kernel) kc_0 ?_
    refine tq_s_istore_n (kk := 2) (L9 := [.ref 0, .int a1, .int (0 : Int32)]) (by decide +kernel) (by decide) rfl ?_
    exact ac_X11_stripsAreSound_9 hB2 h
theorem ac_X11_stripsAreSound_2 {K : Nat × (Nat → Int32)} {x : Nat} {Q : tq_O → tq_S → Prop} {a1 : Int32} {z : tq_S} (h : wc_X11_stripsAreSound_2 Q a1 z) : tq_T K 4 x mm_X11_stripsAreSound 2 [.ref 0, .int a1, .null] [] z Q :=
  tq_lp_T (σ := Int32 × tq_S) (s := (a1, z)) (G := fun s => tq_T K 4 x mm_X11_stripsAreSound 2 [.ref 0, .int s.1, .null] [] s.2 Q) (fun B hB s h => ab_X11_stripsAreSound_2 (fun b1 z h => hB (b1, z) h) h) h
def wm_X11_stripsAreSound  (z : tq_S) (Q : tq_O → tq_S → Prop) : Prop := wc_X11_stripsAreSound_2 Q (1 : Int32) z
theorem am_X11_stripsAreSound {K : Nat × (Nat → Int32)} {x : Nat} {z : tq_S} {Q : tq_O → tq_S → Prop}  (h : wm_X11_stripsAreSound z Q) : tq_M K 4 x mm_X11_stripsAreSound [.ref 0] z Q := by
  unfold wm_X11_stripsAreSound at h
  refine tq_enter (L := [.ref 0, .null, .null]) mf_X11_stripsAreSound.1 rfl rfl (Nat.le_of_ble_eq_true rfl) ?_
  refine tq_k_ic (n := 1) (v := (1 : Int32)) (by decide +kernel) kc_1 ?_
  refine tq_s_istore_n (kk := 1) (L9 := [.ref 0, .int (1 : Int32), .null]) (by decide +kernel) (by decide) rfl ?_
  exact ac_X11_stripsAreSound_2 h
def wc_X0_timesPlus_r1_58 (Q : tq_O → tq_S → Prop) (a5 : Int64) (z : tq_S) : Prop := wm_X0_addLimbs_r1 a5 z (tq_wv fun z101 => Q (.inl none) z101)
theorem ac_X0_timesPlus_r1_58 {K : Nat × (Nat → Int32)} {x : Nat} {Q : tq_O → tq_S → Prop} {a5 : Int64} {z : tq_S} (h : wc_X0_timesPlus_r1_58 Q a5 z) : tq_T K 1 x mm_X0_timesPlus 58 [.ref 48, .null, .null, .null, .null, .long a5, .null, .null, .null, .null] [] z Q := by
  unfold wc_X0_timesPlus_r1_58 at h
  refine tq_s_aload_n (kk := 0) (by decide +kernel) rfl ?_
  refine tq_s_lload (i := 5) (by decide +kernel) rfl ?_
  refine tq_callV (as := [.long a5]) (st := []) (d1 := 0) (x1 := 0) (x2 := x) (by decide +kernel) ln_0_27 mf_X0_addLimbs rfl sh_48 rfl (by decide) np_X0_addLimbs rfl (Nat.le_of_ble_eq_true rfl) (by decide) (Nat.zero_add _).symm (tq_M_mono (am_X0_addLimbs_r1 h) ?_)
  refine tq_wv_e (fun z101 h => ?_)
  exact tq_ret_v (st := []) (by decide +kernel) rfl h
def wb_X0_timesPlus_r1_6 (B6 : Int64 → Int32 → tq_S → Prop) (Q : tq_O → tq_S → Prop) (a1 : Int64) (a5 : Int64) (a7 : Int32) (z : tq_S) : Prop := (((tq_fi z 3073) ≤ a7 → wc_X0_timesPlus_r1_58 Q a5 z) ∧ (¬ (tq_fi z 3073) ≤ a7 → vp_in a7 34 ∧ ∀ v101 : Int64, v101 = (((Int32.toInt64 (tq_ai z 49 (Int32.toNatClampNeg a7))) * a1) + a5) → vp_in a7 34 ∧ ∀ z102 : tq_S, z102 = tq_sai z 49 (upd (tq_ai z 49) (Int32.toNatClampNeg a7) (Int64.toInt32 (v101 - v101 / (1000000000 : Int64) * (1000000000 : Int64)))) → ∀ v103 : Int64, v103 = (v101 / (1000000000 : Int64)) → ∀ v104 : Int32, v104 = a7 + (1 : Int32) → B6 v103 v104 z102))
def wc_X0_timesPlus_r1_6 (Q : tq_O → tq_S → Prop) (a1 : Int64) (a5 : Int64) (a7 : Int32) (z : tq_S) : Prop := tq_lp (σ := Int64 × Int32 × tq_S) (fun B s => wb_X0_timesPlus_r1_6 (fun b5 b7 z => B (b5, b7, z)) Q a1 s.1 s.2.1 s.2.2) (a5, a7, z)
theorem ab_X0_timesPlus_r1_6 {K : Nat × (Nat → Int32)} {x : Nat} {Q : tq_O → tq_S → Prop} {B6 : Int64 → Int32 → tq_S → Prop} {a1 : Int64} {a5 : Int64} {a7 : Int32} {z : tq_S} (hB6 : ∀ (b5 : Int64) (b7 : Int32) (z : tq_S), B6 b5 b7 z → tq_T K 1 x mm_X0_timesPlus 6 [.ref 48, .long a1, .null, .null, .null, .long b5, .null, .int b7, .null, .null] [] z Q) (h : wb_X0_timesPlus_r1_6 B6 Q a1 a5 a7 z) : tq_T K 1 x mm_X0_timesPlus 6 [.ref 48, .long a1, .null, .null, .null, .long a5, .null, .int a7, .null, .null] [] z Q := by
  unfold wb_X0_timesPlus_r1_6 at h
  refine tq_s_iload (i := 7) (by decide +kernel) rfl ?_
  refine tq_s_aload_n (kk := 0) (by decide +kernel) rfl ?_
  refine fg_0_13_48 rfl (by decide +kernel) ?_
  refine tq_icmp_ge (off := 46) (tgt := 58) (by decide +kernel) (by decide +kernel) (fun hc => ?_) (fun hc => ?_)
  · replace h := h.1 hc
    exact tq_to (tq_lk1 (tq_ld1 (tq_lk1 (tq_lk1 (tq_lk1 (tq_lk1 (tq_lk1 (tq_ld1 (tq_lk1 (tq_lk1 tq_l0)))))))))) (ac_X0_timesPlus_r1_58 h)
  · replace h := h.2 hc
    refine tq_s_aload_n (kk := 0) (by decide +kernel) rfl ?_
    refine fg_0_9_48 rfl (by decide +kernel) ?_
    refine tq_s_iload (i := 7) (by decide +kernel) rfl ?_
    refine tq_s_iald (by decide +kernel) sh_49 h.1 ?_
    replace h := h.2
    refine tq_s_i2l (by decide +kernel) ?_
    refine tq_s_lload_n (kk := 1) (by decide +kernel) rfl ?_
    refine tq_s_lmul (by decide +kernel) ?_
    refine tq_s_lload (i := 5) (by decide +kernel) rfl ?_
    refine tq_s_ladd (by decide +kernel) ?_
    refine tq_g_lstore (i := 8) (fun v101 => [.ref 48, .long a1, .null, .null, .null, .long a5, .null, .int a7, .long v101, .null]) (by decide +kernel) (by decide) (fun _ => rfl) (fun v101 ev101 => ?_)
    replace h := h v101 ev101
    refine tq_s_aload_n (kk := 0) (by decide +kernel) rfl ?_
    refine fg_0_9_48 rfl (by decide +kernel) ?_
    refine tq_s_iload (i := 7) (by decide +kernel) rfl ?_
    refine tq_s_lload (i := 8) (by decide +kernel) rfl ?_
    refine tq_s_ldc2 (i := 31) (v := (1000000000 : Int64)) (by decide +kernel) (by decide +kernel) ?_
    refine tq_s_lrem (by decide +kernel) (by decide +kernel) ?_
    refine tq_s_l2i (by decide +kernel) ?_
    refine tq_g_iast (by decide +kernel) sh_49 h.1 (fun z102 ez102 => ?_)
    replace h := h.2 z102 ez102
    refine tq_s_lload (i := 8) (by decide +kernel) rfl ?_
    refine tq_s_ldc2 (i := 31) (v := (1000000000 : Int64)) (by decide +kernel) (by decide +kernel) ?_
    refine tq_s_ldiv (by decide +kernel) (by decide +kernel) ?_
    refine tq_g_lstore (i := 5) (fun v103 => [.ref 48, .long a1, .null, .null, .null, .long v103, .null, .int a7, .long v101, .null]) (by decide +kernel) (by decide) (fun _ => rfl) (fun v103 ev103 => ?_)
    replace h := h v103 ev103
    refine tq_g_iinc (i := 7) (fun v104 => [.ref 48, .long a1, .null, .null, .null, .long v103, .null, .int v104, .long v101, .null]) (by decide +kernel) rfl (1 : Int32) kc_1 (fun _ => rfl) (fun v104 ev104 => ?_)
    replace h := h v104 ev104
    refine tq_s_goto (off := -49) (tgt := 6) (by decide +kernel) (by decide +kernel) ?_
    exact tq_to (tq_lk1 (tq_lk1 (tq_lk1 (tq_lk1 (tq_lk1 (tq_lk1 (tq_lk1 (tq_lk1 (tq_ld1 (tq_lk1 tq_l0)))))))))) (hB6 _ _ _ h)
theorem ac_X0_timesPlus_r1_6 {K : Nat × (Nat → Int32)} {x : Nat} {Q : tq_O → tq_S → Prop} {a1 : Int64} {a5 : Int64} {a7 : Int32} {z : tq_S} (h : wc_X0_timesPlus_r1_6 Q a1 a5 a7 z) : tq_T K 1 x mm_X0_timesPlus 6 [.ref 48, .long a1, .null, .null, .null, .long a5, .null, .int a7, .null, .null] [] z Q :=
  tq_lp_T (σ := Int64 × Int32 × tq_S) (s := (a5, a7, z)) (G := fun s => tq_T K 1 x mm_X0_timesPlus 6 [.ref 48, .long a1, .null, .null, .null, .long s.1, .null, .int s.2.1, .null, .null] [] s.2.2 Q) (fun B hB s h => ab_X0_timesPlus_r1_6 (fun b5 b7 z h => hB (b5, b7, z) h) h) h
def wm_X0_timesPlus_r1 (a1 : Int64) (a3 : Int64) (z : tq_S) (Q : tq_O → tq_S → Prop) : Prop := wc_X0_timesPlus_r1_6 Q a1 a3 (0 : Int32) z
theorem am_X0_timesPlus_r1 {K : Nat × (Nat → Int32)} {x : Nat} {z : tq_S} {Q : tq_O → tq_S → Prop} {a1 : Int64} {a3 : Int64} (h : wm_X0_timesPlus_r1 a1 a3 z Q) : tq_M K 1 x mm_X0_timesPlus [.ref 48, .long a1, .long a3] z Q := by
  unfold wm_X0_timesPlus_r1 at h
  refine tq_enter (L := [.ref 48, .long a1, .null, .long a3, .null, .null, .null, .null, .null, .null]) mf_X0_timesPlus.1 rfl rfl (Nat.le_of_ble_eq_true rfl) ?_
  refine tq_s_lload_n (kk := 3) (by decide +kernel) rfl ?_
  refine tq_s_lstore (i := 5) (L9 := [.ref 48, .long a1, .null, .long a3, .null, .long a3, .null, .null, .null, .null]) (by decide +kernel) (by decide) rfl ?_
  refine tq_k_ic (n := 0) (v := (0 : Int32)) (by decide +kernel) kc_0 ?_
  refine tq_s_istore (i := 7) (L9 := [.ref 48, .long a1, .null, .long a3, .null, .long a3, .null, .int (0 : Int32), .null, .null]) (by decide +kernel) (by decide) rfl ?_
  exact tq_to (tq_lk1 (tq_lk1 (tq_lk1 (tq_ld1 (tq_lk1 (tq_lk1 (tq_lk1 (tq_lk1 (tq_lk1 (tq_lk1 tq_l0)))))))))) (ac_X0_timesPlus_r1_6 h)
def wc_X0_divideBy_r1_79 (B18 : Int64 → Int32 → Int32 → tq_S → Prop) (Q : tq_O → tq_S → Prop) (a1 : Int32) (a2 : Int64) (a4 : Int32) (a5 : Int32) (z : tq_S) : Prop := ∀ v101 : Int32, v101 = a5 + (-1 : Int32) → B18 a2 a4 v101 z
theorem ac_X0_divideBy_r1_79 {K : Nat × (Nat → Int32)} {x : Nat} {Q : tq_O → tq_S → Prop} {B18 : Int64 → Int32 → Int32 → tq_S → Prop} {a1 : Int32} {a2 : Int64} {a4 : Int32} {a5 : Int32} {z : tq_S} (hB18 : ∀ (b2 : Int64) (b4 : Int32) (b5 : Int32) (z : tq_S), B18 b2 b4 b5 z → tq_T K 0 x mm_X0_divideBy 18 [.ref 48, .int a1, .long b2, .null, .int b4, .int b5, .null, .null] [] z Q) (h : wc_X0_divideBy_r1_79 B18 Q a1 a2 a4 a5 z) : tq_T K 0 x mm_X0_divideBy 79 [.ref 48, .int a1, .long a2, .null, .int a4, .int a5, .null, .null] [] z Q := by
  unfold wc_X0_divideBy_r1_79 at h
  refine tq_g_iinc (i := 5) (fun v101 => [.ref 48, .int a1, .long a2, .null, .int a4, .int v101, .null, .null]) (by decide +kernel) rfl (-1 : Int32) kc_m1 (fun _ => rfl) (fun v101 ev101 => ?_)
  replace h := h v101 ev101
  refine tq_s_goto (off := -64) (tgt := 18) (by decide +kernel) (by decide +kernel) ?_
  exact hB18 _ _ _ _ h
def wc_X0_divideBy_r1_85 (Q : tq_O → tq_S → Prop) (a4 : Int32) (z : tq_S) : Prop := ∀ z101 : tq_S, z101 = tq_sfi z 3073 a4 → Q (.inl none) z101
theorem ac_X0_divideBy_r1_85 {K : Nat × (Nat → Int32)} {x : Nat} {Q : tq_O → tq_S → Prop} {a4 : Int32} {z : tq_S} (h : wc_X0_divideBy_r1_85 Q a4 z) : tq_T K 0 x mm_X0_divideBy 85 [.ref 48, .null, .null, .null, .int a4, .null, .null, .null] [] z Q := by
  unfold wc_X0_divideBy_r1_85 at h
  refine tq_s_aload_n (kk := 0) (by decide +kernel) rfl ?_
  refine tq_s_iload (i := 4) (by decide +kernel) rfl ?_
  refine fp_0_13_48 rfl (by decide +kernel) (fun z101 ez101 => ?_)
  replace h := h z101 ez101
  exact tq_ret_v (st := []) (by decide +kernel) rfl h
def wb_X0_divideBy_r1_18 (B18 : Int64 → Int32 → Int32 → tq_S → Prop) (Q : tq_O → tq_S → Prop) (a1 : Int32) (a2 : Int64) (a4 : Int32) (a5 : Int32) (z : tq_S) : Prop := ((a5 < 0 → wc_X0_divideBy_r1_85 Q a4 z) ∧ (¬ a5 < 0 → vp_in a5 34 ∧ ∀ v101 : Int64, v101 = ((a2 * (1000000000 : Int64)) + (Int32.toInt64 (tq_ai z 49 (Int32.toNatClampNeg a5)))) → (¬ (Int32.toInt64 a1) = 0) ∧ vp_in a5 34 ∧ ∀ z102 : tq_S, z102 = tq_sai z 49 (upd (tq_ai z 49) (Int32.toNatClampNeg a5) (Int64.toInt32 (v101 / (Int32.toInt64 a1)))) → (¬ (Int32.toInt64 a1) = 0) ∧ ∀ v103 : Int64, v103 = (v101 - v101 / (Int32.toInt64 a1) * (Int32.toInt64 a1)) → ((¬ a4 = 0 → wc_X0_divideBy_r1_79 B18 Q a1 v103 a4 a5 z102) ∧ (a4 = 0 → vp_in a5 34 ∧ (((tq_ai z102 49 (Int32.toNatClampNeg a5)) = 0 → wc_X0_divideBy_r1_79 B18 Q a1 v103 a4 a5 z102) ∧ (¬ (tq_ai z102 49 (Int32.toNatClampNeg a5)) = 0 → ∀ v104 : Int32, v104 = (a5 + (1 : Int32)) → wc_X0_divideBy_r1_79 B18 Q a1 v103 v104 a5 z102))))))
def wc_X0_divideBy_r1_18 (Q : tq_O → tq_S → Prop) (a1 : Int32) (a2 : Int64) (a4 : Int32) (a5 : Int32) (z : tq_S) : Prop := tq_lp (σ := Int64 × Int32 × Int32 × tq_S) (fun B s => wb_X0_divideBy_r1_18 (fun b2 b4 b5 z => B (b2, b4, b5, z)) Q a1 s.1 s.2.1 s.2.2.1 s.2.2.2) (a2, a4, a5, z)
theorem ab_X0_divideBy_r1_18 {K : Nat × (Nat → Int32)} {x : Nat} {Q : tq_O → tq_S → Prop} {B18 : Int64 → Int32 → Int32 → tq_S → Prop} {a1 : Int32} {a2 : Int64} {a4 : Int32} {a5 : Int32} {z : tq_S} (hB18 : ∀ (b2 : Int64) (b4 : Int32) (b5 : Int32) (z : tq_S), B18 b2 b4 b5 z → tq_T K 0 x mm_X0_divideBy 18 [.ref 48, .int a1, .long b2, .null, .int b4, .int b5, .null, .null] [] z Q) (h : wb_X0_divideBy_r1_18 B18 Q a1 a2 a4 a5 z) : tq_T K 0 x mm_X0_divideBy 18 [.ref 48, .int a1, .long a2, .null, .int a4, .int a5, .null, .null] [] z Q := by
  unfold wb_X0_divideBy_r1_18 at h
  refine tq_s_iload (i := 5) (by decide +kernel) rfl ?_
  refine tq_if_lt (off := 65) (tgt := 85) (by decide +kernel) (by decide +kernel) (fun hc => ?_) (fun hc => ?_)
  · replace h := h.1 hc
    exact tq_to (tq_lk1 (tq_ld1 (tq_ld1 (tq_lk1 (tq_lk1 (tq_ld1 (tq_lk1 (tq_lk1 tq_l0)))))))) (ac_X0_divideBy_r1_85 h)
  · replace h := h.2 hc
    refine tq_s_lload_n (kk := 2) (by decide +kernel) rfl ?_
    refine tq_s_ldc2 (i := 31) (v := (1000000000 : Int64)) (by decide +kernel) (by decide +kernel) ?_
    refine tq_s_lmul (by decide +kernel) ?_
    refine tq_s_aload_n (kk := 0) (by decide +kernel) rfl ?_
    refine fg_0_9_48 rfl (by decide +kernel) ?_
    refine tq_s_iload (i := 5) (by decide +kernel) rfl ?_
    refine tq_s_iald (by decide +kernel) sh_49 h.1 ?_
    replace h := h.2
    refine tq_s_i2l (by decide +kernel) ?_
    refine tq_s_ladd (by decide +kernel) ?_
    refine tq_g_lstore (i := 6) (fun v101 => [.ref 48, .int a1, .long a2, .null, .int a4, .int a5, .long v101, .null]) (by decide +kernel) (by decide) (fun _ => rfl) (fun v101 ev101 => ?_)
    replace h := h v101 ev101
    refine tq_s_aload_n (kk := 0) (by decide +kernel) rfl ?_
    refine fg_0_9_48 rfl (by decide +kernel) ?_
    refine tq_s_iload (i := 5) (by decide +kernel) rfl ?_
    refine tq_s_lload (i := 6) (by decide +kernel) rfl ?_
    refine tq_s_iload_n (kk := 1) (by decide +kernel) rfl ?_
    refine tq_s_i2l (by decide +kernel) ?_
    refine tq_s_ldiv (by decide +kernel) h.1 ?_
    replace h := h.2
    refine tq_s_l2i (by decide +kernel) ?_
    refine tq_g_iast (by decide +kernel) sh_49 h.1 (fun z102 ez102 => ?_)
    replace h := h.2 z102 ez102
    refine tq_s_lload (i := 6) (by decide +kernel) rfl ?_
    refine tq_s_iload_n (kk := 1) (by decide +kernel) rfl ?_
    refine tq_s_i2l (by decide +kernel) ?_
    refine tq_s_lrem (by decide +kernel) h.1 ?_
    replace h := h.2
    refine tq_g_lstore_n (kk := 2) (fun v103 => [.ref 48, .int a1, .long v103, .null, .int a4, .int a5, .long v101, .null]) (by decide +kernel) (by decide) (fun _ => rfl) (fun v103 ev103 => ?_)
    replace h := h v103 ev103
    refine tq_s_iload (i := 4) (by decide +kernel) rfl ?_
    refine tq_if_ne (off := 19) (tgt := 79) (by decide +kernel) (by decide +kernel) (fun hc => ?_) (fun hc => ?_)
    · replace h := h.1 hc
      exact tq_to (tq_lk1 (tq_lk1 (tq_lk1 (tq_lk1 (tq_lk1 (tq_lk1 (tq_ld1 (tq_lk1 tq_l0)))))))) (ac_X0_divideBy_r1_79 hB18 h)
    · replace h := h.2 hc
      refine tq_s_aload_n (kk := 0) (by decide +kernel) rfl ?_
      refine fg_0_9_48 rfl (by decide +kernel) ?_
      refine tq_s_iload (i := 5) (by decide +kernel) rfl ?_
      refine tq_s_iald (by decide +kernel) sh_49 h.1 ?_
      replace h := h.2
      refine tq_if_eq (off := 9) (tgt := 79) (by decide +kernel) (by decide +kernel) (fun hc => ?_) (fun hc => ?_)
      · replace h := h.1 hc
        exact tq_to (tq_lk1 (tq_lk1 (tq_lk1 (tq_lk1 (tq_lk1 (tq_lk1 (tq_ld1 (tq_lk1 tq_l0)))))))) (ac_X0_divideBy_r1_79 hB18 h)
      · replace h := h.2 hc
        refine tq_s_iload (i := 5) (by decide +kernel) rfl ?_
        refine tq_k_ic (n := 1) (v := (1 : Int32)) (by decide +kernel) kc_1 ?_
        refine tq_s_iadd (by decide +kernel) ?_
        refine tq_g_istore (i := 4) (fun v104 => [.ref 48, .int a1, .long v103, .null, .int v104, .int a5, .long v101, .null]) (by decide +kernel) (by decide) (fun _ => rfl) (fun v104 ev104 => ?_)
        replace h := h v104 ev104
        exact tq_to (tq_lk1 (tq_lk1 (tq_lk1 (tq_lk1 (tq_lk1 (tq_lk1 (tq_ld1 (tq_lk1 tq_l0)))))))) (ac_X0_divideBy_r1_79 hB18 h)
theorem ac_X0_divideBy_r1_18 {K : Nat × (Nat → Int32)} {x : Nat} {Q : tq_O → tq_S → Prop} {a1 : Int32} {a2 : Int64} {a4 : Int32} {a5 : Int32} {z : tq_S} (h : wc_X0_divideBy_r1_18 Q a1 a2 a4 a5 z) : tq_T K 0 x mm_X0_divideBy 18 [.ref 48, .int a1, .long a2, .null, .int a4, .int a5, .null, .null] [] z Q :=
  tq_lp_T (σ := Int64 × Int32 × Int32 × tq_S) (s := (a2, a4, a5, z)) (G := fun s => tq_T K 0 x mm_X0_divideBy 18 [.ref 48, .int a1, .long s.1, .null, .int s.2.1, .int s.2.2.1, .null, .null] [] s.2.2.2 Q) (fun B hB s h => ab_X0_divideBy_r1_18 (fun b2 b4 b5 z h => hB (b2, b4, b5, z) h) h) h
def wm_X0_divideBy_r1 (a1 : Int32) (z : tq_S) (Q : tq_O → tq_S → Prop) : Prop := ((0 < a1 → ∀ v1 : Int32, v1 = ((tq_fi z 3073) - (1 : Int32)) → wc_X0_divideBy_r1_18 Q a1 (0 : Int64) (0 : Int32) v1 z) ∧ (¬ 0 < a1 → Q (.inl none) z))
theorem am_X0_divideBy_r1 {K : Nat × (Nat → Int32)} {x : Nat} {z : tq_S} {Q : tq_O → tq_S → Prop} {a1 : Int32} (h : wm_X0_divideBy_r1 a1 z Q) : tq_M K 0 x mm_X0_divideBy [.ref 48, .int a1] z Q := by
  unfold wm_X0_divideBy_r1 at h
  refine tq_enter (L := [.ref 48, .int a1, .null, .null, .null, .null, .null, .null]) mf_X0_divideBy.1 rfl rfl (Nat.le_of_ble_eq_true rfl) ?_
  refine tq_s_iload_n (kk := 1) (by decide +kernel) rfl ?_
  refine tq_if_gt (off := 4) (tgt := 5) (by decide +kernel) (by decide +kernel) (fun hc => ?_) (fun hc => ?_)
  · replace h := h.1 hc
    refine tq_k_lc (n := 0) (v := (0 : Int64)) (by decide +kernel) (by decide +kernel) ?_
    refine tq_s_lstore_n (kk := 2) (L9 := [.ref 48, .int a1, .long (0 : Int64), .null, .null, .null, .null, .null]) (by decide +kernel) (by decide) rfl ?_
    refine tq_k_ic (n := 0) (v := (0 : Int32)) (by decide +kernel) kc_0 ?_
    refine tq_s_istore (i := 4) (L9 := [.ref 48, .int a1, .long (0 : Int64), .null, .int (0 : Int32), .null, .null, .null]) (by decide +kernel) (by decide) rfl ?_
    refine tq_s_aload_n (kk := 0) (by decide +kernel) rfl ?_
    refine fg_0_13_48 rfl (by decide +kernel) ?_
    refine tq_k_ic (n := 1) (v := (1 : Int32)) (by decide +kernel) kc_1 ?_
    refine tq_s_isub (by decide +kernel) ?_
    refine tq_g_istore (i := 5) (fun v1 => [.ref 48, .int a1, .long (0 : Int64), .null, .int (0 : Int32), .int v1, .null, .null]) (by decide +kernel) (by decide) (fun _ => rfl) (fun v1 ev1 => ?_)
    replace h := h v1 ev1
    exact ac_X0_divideBy_r1_18 h
  · replace h := h.2 hc
    exact tq_ret_v (st := []) (by decide +kernel) rfl h
def wc_X0_putHeaps_r1_44 (B8 : Int32 → tq_S → Prop) (Q : tq_O → tq_S → Prop) (a1 : Int32) (a2 : Int32) (a3 : Int32) (a4 : Int32) (z : tq_S) : Prop := ∀ v101 : Int32, v101 = a4 + (1 : Int32) → B8 v101 z
theorem ac_X0_putHeaps_r1_44 {K : Nat × (Nat → Int32)} {x : Nat} {Q : tq_O → tq_S → Prop} {B8 : Int32 → tq_S → Prop} {a1 : Int32} {a2 : Int32} {a3 : Int32} {a4 : Int32} {z : tq_S} (hB8 : ∀ (b4 : Int32) (z : tq_S), B8 b4 z → tq_T K 2 x mm_X0_putHeaps 8 [.ref 48, .int a1, .int a2, .int a3, .int b4, .null] [] z Q) (h : wc_X0_putHeaps_r1_44 B8 Q a1 a2 a3 a4 z) : tq_T K 2 x mm_X0_putHeaps 44 [.ref 48, .int a1, .int a2, .int a3, .int a4, .null] [] z Q := by
  unfold wc_X0_putHeaps_r1_44 at h
  refine tq_g_iinc (i := 4) (fun v101 => [.ref 48, .int a1, .int a2, .int a3, .int v101, .null]) (by decide +kernel) rfl (1 : Int32) kc_1 (fun _ => rfl) (fun v101 ev101 => ?_)
  replace h := h v101 ev101
  refine tq_s_goto (off := -39) (tgt := 8) (by decide +kernel) (by decide +kernel) ?_
  exact hB8 _ _ h
def wb_X0_putHeaps_r1_17 (B8 : Int32 → tq_S → Prop) (B17 : Int32 → tq_S → Prop) (Q : tq_O → tq_S → Prop) (a1 : Int32) (a2 : Int32) (a3 : Int32) (a4 : Int32) (a5 : Int32) (z : tq_S) : Prop := ((a2 < a5 → wc_X0_putHeaps_r1_44 B8 Q a1 a2 a3 a4 z) ∧ (¬ a2 < a5 → wm_X0_timesPlus_r1 (Int32.toInt64 (((a3 + a4) + a5) - (1 : Int32))) (0 : Int64) z (tq_wv fun z101 => ∀ v102 : Int32, v102 = a5 + (1 : Int32) → B17 v102 z101)))
def wc_X0_putHeaps_r1_17 (B8 : Int32 → tq_S → Prop) (Q : tq_O → tq_S → Prop) (a1 : Int32) (a2 : Int32) (a3 : Int32) (a4 : Int32) (a5 : Int32) (z : tq_S) : Prop := tq_lp (σ := Int32 × tq_S) (fun B s => wb_X0_putHeaps_r1_17 B8 (fun b5 z => B (b5, z)) Q a1 a2 a3 a4 s.1 s.2) (a5, z)
theorem ab_X0_putHeaps_r1_17 {K : Nat × (Nat → Int32)} {x : Nat} {Q : tq_O → tq_S → Prop} {B8 : Int32 → tq_S → Prop} {B17 : Int32 → tq_S → Prop} {a1 : Int32} {a2 : Int32} {a3 : Int32} {a4 : Int32} {a5 : Int32} {z : tq_S} (hB8 : ∀ (b4 : Int32) (z : tq_S), B8 b4 z → tq_T K 2 x mm_X0_putHeaps 8 [.ref 48, .int a1, .int a2, .int a3, .int b4, .null] [] z Q) (hB17 : ∀ (b5 : Int32) (z : tq_S), B17 b5 z → tq_T K 2 x mm_X0_putHeaps 17 [.ref 48, .int a1, .int a2, .int a3, .int a4, .int b5] [] z Q) (h : wb_X0_putHeaps_r1_17 B8 B17 Q a1 a2 a3 a4 a5 z) : tq_T K 2 x mm_X0_putHeaps 17 [.ref 48, .int a1, .int a2, .int a3, .int a4, .int a5] [] z Q := by
  unfold wb_X0_putHeaps_r1_17 at h
  refine tq_s_iload (i := 5) (by decide +kernel) rfl ?_
  refine tq_s_iload_n (kk := 2) (by decide +kernel) rfl ?_
  refine tq_icmp_gt (off := 24) (tgt := 44) (by decide +kernel) (by decide +kernel) (fun hc => ?_) (fun hc => ?_)
  · replace h := h.1 hc
    exact tq_to (tq_lk1 (tq_lk1 (tq_lk1 (tq_lk1 (tq_lk1 (tq_ld1 tq_l0)))))) (ac_X0_putHeaps_r1_44 hB8 h)
  · replace h := h.2 hc
    refine tq_s_aload_n (kk := 0) (by decide +kernel) rfl ?_
    refine tq_s_iload_n (kk := 3) (by decide +kernel) rfl ?_
    refine tq_s_iload (i := 4) (by decide +kernel) rfl ?_
    refine tq_s_iadd (by decide +kernel) ?_
    refine tq_s_iload (i := 5) (by decide +kernel) rfl ?_
    refine tq_s_iadd (by decide +kernel) ?_
    refine tq_k_ic (n := 1) (v := (1 : Int32)) (by decide +kernel) kc_1 ?_
    refine tq_s_isub (by decide +kernel) ?_
    refine tq_s_i2l (by decide +kernel) ?_
    refine tq_k_lc (n := 0) (v := (0 : Int64)) (by decide +kernel) (by decide +kernel) ?_
    refine tq_callV (as := [.long (Int32.toInt64 (((a3 + a4) + a5) - (1 : Int32))), .long (0 : Int64)]) (st := []) (d1 := 1) (x1 := 0) (x2 := x) (by decide +kernel) ln_0_36 mf_X0_timesPlus rfl sh_48 rfl (by decide) np_X0_timesPlus rfl (Nat.le_of_ble_eq_true rfl) (by decide) (Nat.zero_add _).symm (tq_M_mono (am_X0_timesPlus_r1 h) ?_)
    refine tq_wv_e (fun z101 h => ?_)
    refine tq_g_iinc (i := 5) (fun v102 => [.ref 48, .int a1, .int a2, .int a3, .int a4, .int v102]) (by decide +kernel) rfl (1 : Int32) kc_1 (fun _ => rfl) (fun v102 ev102 => ?_)
    replace h := h v102 ev102
    refine tq_s_goto (off := -24) (tgt := 17) (by decide +kernel) (by decide +kernel) ?_
    exact hB17 _ _ h
theorem ac_X0_putHeaps_r1_17 {K : Nat × (Nat → Int32)} {x : Nat} {Q : tq_O → tq_S → Prop} {B8 : Int32 → tq_S → Prop} {a1 : Int32} {a2 : Int32} {a3 : Int32} {a4 : Int32} {a5 : Int32} {z : tq_S} (hB8 : ∀ (b4 : Int32) (z : tq_S), B8 b4 z → tq_T K 2 x mm_X0_putHeaps 8 [.ref 48, .int a1, .int a2, .int a3, .int b4, .null] [] z Q) (h : wc_X0_putHeaps_r1_17 B8 Q a1 a2 a3 a4 a5 z) : tq_T K 2 x mm_X0_putHeaps 17 [.ref 48, .int a1, .int a2, .int a3, .int a4, .int a5] [] z Q :=
  tq_lp_T (σ := Int32 × tq_S) (s := (a5, z)) (G := fun s => tq_T K 2 x mm_X0_putHeaps 17 [.ref 48, .int a1, .int a2, .int a3, .int a4, .int s.1] [] s.2 Q) (fun B hB s h => ab_X0_putHeaps_r1_17 hB8 (fun b5 z h => hB (b5, z) h) h) h
def wc_X0_putHeaps_r1_85 (B53 : Int32 → tq_S → Prop) (Q : tq_O → tq_S → Prop) (a1 : Int32) (a2 : Int32) (a4 : Int32) (z : tq_S) : Prop := ∀ v101 : Int32, v101 = a4 + (1 : Int32) → B53 v101 z
theorem ac_X0_putHeaps_r1_85 {K : Nat × (Nat → Int32)} {x : Nat} {Q : tq_O → tq_S → Prop} {B53 : Int32 → tq_S → Prop} {a1 : Int32} {a2 : Int32} {a4 : Int32} {z : tq_S} (hB53 : ∀ (b4 : Int32) (z : tq_S), B53 b4 z → tq_T K 2 x mm_X0_putHeaps 53 [.ref 48, .int a1, .int a2, .null, .int b4, .null] [] z Q) (h : wc_X0_putHeaps_r1_85 B53 Q a1 a2 a4 z) : tq_T K 2 x mm_X0_putHeaps 85 [.ref 48, .int a1, .int a2, .null, .int a4, .null] [] z Q := by
  unfold wc_X0_putHeaps_r1_85 at h
  refine tq_g_iinc (i := 4) (fun v101 => [.ref 48, .int a1, .int a2, .null, .int v101, .null]) (by decide +kernel) rfl (1 : Int32) kc_1 (fun _ => rfl) (fun v101 ev101 => ?_)
  replace h := h v101 ev101
  refine tq_s_goto (off := -35) (tgt := 53) (by decide +kernel) (by decide +kernel) ?_
  exact hB53 _ _ h
def wb_X0_putHeaps_r1_62 (B53 : Int32 → tq_S → Prop) (B62 : Int32 → tq_S → Prop) (Q : tq_O → tq_S → Prop) (a1 : Int32) (a2 : Int32) (a4 : Int32) (a5 : Int32) (z : tq_S) : Prop := ((a2 < a5 → wc_X0_putHeaps_r1_85 B53 Q a1 a2 a4 z) ∧ (¬ a2 < a5 → wm_X0_divideBy_r1 ((a4 + a5) - (1 : Int32)) z (tq_wv fun z101 => ∀ v102 : Int32, v102 = a5 + (1 : Int32) → B62 v102 z101)))
def wc_X0_putHeaps_r1_62 (B53 : Int32 → tq_S → Prop) (Q : tq_O → tq_S → Prop) (a1 : Int32) (a2 : Int32) (a4 : Int32) (a5 : Int32) (z : tq_S) : Prop := tq_lp (σ := Int32 × tq_S) (fun B s => wb_X0_putHeaps_r1_62 B53 (fun b5 z => B (b5, z)) Q a1 a2 a4 s.1 s.2) (a5, z)
theorem ab_X0_putHeaps_r1_62 {K : Nat × (Nat → Int32)} {x : Nat} {Q : tq_O → tq_S → Prop} {B53 : Int32 → tq_S → Prop} {B62 : Int32 → tq_S → Prop} {a1 : Int32} {a2 : Int32} {a4 : Int32} {a5 : Int32} {z : tq_S} (hB53 : ∀ (b4 : Int32) (z : tq_S), B53 b4 z → tq_T K 2 x mm_X0_putHeaps 53 [.ref 48, .int a1, .int a2, .null, .int b4, .null] [] z Q) (hB62 : ∀ (b5 : Int32) (z : tq_S), B62 b5 z → tq_T K 2 x mm_X0_putHeaps 62 [.ref 48, .int a1, .int a2, .null, .int a4, .int b5] [] z Q) (h : wb_X0_putHeaps_r1_62 B53 B62 Q a1 a2 a4 a5 z) : tq_T K 2 x mm_X0_putHeaps 62 [.ref 48, .int a1, .int a2, .null, .int a4, .int a5] [] z Q := by
  unfold wb_X0_putHeaps_r1_62 at h
  refine tq_s_iload (i := 5) (by decide +kernel) rfl ?_
  refine tq_s_iload_n (kk := 2) (by decide +kernel) rfl ?_
  refine tq_icmp_gt (off := 20) (tgt := 85) (by decide +kernel) (by decide +kernel) (fun hc => ?_) (fun hc => ?_)
  · replace h := h.1 hc
    exact tq_to (tq_lk1 (tq_lk1 (tq_lk1 (tq_lk1 (tq_lk1 (tq_ld1 tq_l0)))))) (ac_X0_putHeaps_r1_85 hB53 h)
  · replace h := h.2 hc
    refine tq_s_aload_n (kk := 0) (by decide +kernel) rfl ?_
    refine tq_s_iload (i := 4) (by decide +kernel) rfl ?_
    refine tq_s_iload (i := 5) (by decide +kernel) rfl ?_
    refine tq_s_iadd (by decide +kernel) ?_
    refine tq_k_ic (n := 1) (v := (1 : Int32)) (by decide +kernel) kc_1 ?_
    refine tq_s_isub (by decide +kernel) ?_
    refine tq_callV (as := [.int ((a4 + a5) - (1 : Int32))]) (st := []) (d1 := 0) (x1 := 0) (x2 := x) (by decide +kernel) ln_0_40 mf_X0_divideBy rfl sh_48 rfl (by decide) np_X0_divideBy rfl (Nat.le_of_ble_eq_true rfl) (by decide) (Nat.zero_add _).symm (tq_M_mono (am_X0_divideBy_r1 h) ?_)
    refine tq_wv_e (fun z101 h => ?_)
    refine tq_g_iinc (i := 5) (fun v102 => [.ref 48, .int a1, .int a2, .null, .int a4, .int v102]) (by decide +kernel) rfl (1 : Int32) kc_1 (fun _ => rfl) (fun v102 ev102 => ?_)
    replace h := h v102 ev102
    refine tq_s_goto (off := -20) (tgt := 62) (by decide +kernel) (by decide +kernel) ?_
    exact hB62 _ _ h
theorem ac_X0_putHeaps_r1_62 {K : Nat × (Nat → Int32)} {x : Nat} {Q : tq_O → tq_S → Prop} {B53 : Int32 → tq_S → Prop} {a1 : Int32} {a2 : Int32} {a4 : Int32} {a5 : Int32} {z : tq_S} (hB53 : ∀ (b4 : Int32) (z : tq_S), B53 b4 z → tq_T K 2 x mm_X0_putHeaps 53 [.ref 48, .int a1, .int a2, .null, .int b4, .null] [] z Q) (h : wc_X0_putHeaps_r1_62 B53 Q a1 a2 a4 a5 z) : tq_T K 2 x mm_X0_putHeaps 62 [.ref 48, .int a1, .int a2, .null, .int a4, .int a5] [] z Q :=
  tq_lp_T (σ := Int32 × tq_S) (s := (a5, z)) (G := fun s => tq_T K 2 x mm_X0_putHeaps 62 [.ref 48, .int a1, .int a2, .null, .int a4, .int s.1] [] s.2 Q) (fun B hB s h => ab_X0_putHeaps_r1_62 hB53 (fun b5 z h => hB (b5, z) h) h) h
def wb_X0_putHeaps_r1_53 (B53 : Int32 → tq_S → Prop) (Q : tq_O → tq_S → Prop) (a1 : Int32) (a2 : Int32) (a4 : Int32) (z : tq_S) : Prop := ((a1 < a4 → Q (.inl none) z) ∧ (¬ a1 < a4 → wc_X0_putHeaps_r1_62 B53 Q a1 a2 a4 (1 : Int32) z))
def wc_X0_putHeaps_r1_53 (Q : tq_O → tq_S → Prop) (a1 : Int32) (a2 : Int32) (a4 : Int32) (z : tq_S) : Prop := tq_lp (σ := Int32 × tq_S) (fun B s => wb_X0_putHeaps_r1_53 (fun b4 z => B (b4, z)) Q a1 a2 s.1 s.2) (a4, z)
theorem ab_X0_putHeaps_r1_53 {K : Nat × (Nat → Int32)} {x : Nat} {Q : tq_O → tq_S → Prop} {B53 : Int32 → tq_S → Prop} {a1 : Int32} {a2 : Int32} {a4 : Int32} {z : tq_S} (hB53 : ∀ (b4 : Int32) (z : tq_S), B53 b4 z → tq_T K 2 x mm_X0_putHeaps 53 [.ref 48, .int a1, .int a2, .null, .int b4, .null] [] z Q) (h : wb_X0_putHeaps_r1_53 B53 Q a1 a2 a4 z) : tq_T K 2 x mm_X0_putHeaps 53 [.ref 48, .int a1, .int a2, .null, .int a4, .null] [] z Q := by
  unfold wb_X0_putHeaps_r1_53 at h
  refine tq_s_iload (i := 4) (by decide +kernel) rfl ?_
  refine tq_s_iload_n (kk := 1) (by decide +kernel) rfl ?_
  refine tq_icmp_gt (off := 35) (tgt := 91) (by decide +kernel) (by decide +kernel) (fun hc => ?_) (fun hc => ?_)
  · replace h := h.1 hc
    exact tq_ret_v (st := []) (by decide +kernel) rfl h
  · replace h := h.2 hc
    refine tq_k_ic (n := 1) (v := (1 : Int32)) (by decide +kernel) kc_1 ?_
    refine tq_s_istore (i := 5) (L9 := [.ref 48, .int a1, .int a2, .null, .int a4, .int (1 : Int32)]) (by decide +kernel) (by decide) rfl ?_
    exact ac_X0_putHeaps_r1_62 hB53 h
theorem ac_X0_putHeaps_r1_53 {K : Nat × (Nat → Int32)} {x : Nat} {Q : tq_O → tq_S → Prop} {a1 : Int32} {a2 : Int32} {a4 : Int32} {z : tq_S} (h : wc_X0_putHeaps_r1_53 Q a1 a2 a4 z) : tq_T K 2 x mm_X0_putHeaps 53 [.ref 48, .int a1, .int a2, .null, .int a4, .null] [] z Q :=
  tq_lp_T (σ := Int32 × tq_S) (s := (a4, z)) (G := fun s => tq_T K 2 x mm_X0_putHeaps 53 [.ref 48, .int a1, .int a2, .null, .int s.1, .null] [] s.2 Q) (fun B hB s h => ab_X0_putHeaps_r1_53 (fun b4 z h => hB (b4, z) h) h) h
def wc_X0_putHeaps_r1_50 (Q : tq_O → tq_S → Prop) (a1 : Int32) (a2 : Int32) (z : tq_S) : Prop := wc_X0_putHeaps_r1_53 Q a1 a2 (1 : Int32) z
theorem ac_X0_putHeaps_r1_50 {K : Nat × (Nat → Int32)} {x : Nat} {Q : tq_O → tq_S → Prop} {a1 : Int32} {a2 : Int32} {z : tq_S} (h : wc_X0_putHeaps_r1_50 Q a1 a2 z) : tq_T K 2 x mm_X0_putHeaps 50 [.ref 48, .int a1, .int a2, .null, .null, .null] [] z Q := by
  unfold wc_X0_putHeaps_r1_50 at h
  refine tq_k_ic (n := 1) (v := (1 : Int32)) (by decide +kernel) kc_1 ?_
  refine tq_s_istore (i := 4) (L9 := [.ref 48, .int a1, .int a2, .null, .int (1 : Int32), .null]) (by decide +kernel) (by decide) rfl ?_
  exact ac_X0_putHeaps_r1_53 h
def wb_X0_putHeaps_r1_8 (B8 : Int32 → tq_S → Prop) (Q : tq_O → tq_S → Prop) (a1 : Int32) (a2 : Int32) (a3 : Int32) (a4 : Int32) (z : tq_S) : Prop := ((a1 < a4 → wc_X0_putHeaps_r1_50 Q a1 a2 z) ∧ (¬ a1 < a4 → wc_X0_putHeaps_r1_17 B8 Q a1 a2 a3 a4 (1 : Int32) z))
def wc_X0_putHeaps_r1_8 (Q : tq_O → tq_S → Prop) (a1 : Int32) (a2 : Int32) (a3 : Int32) (a4 : Int32) (z : tq_S) : Prop := tq_lp (σ := Int32 × tq_S) (fun B s => wb_X0_putHeaps_r1_8 (fun b4 z => B (b4, z)) Q a1 a2 a3 s.1 s.2) (a4, z)
theorem ab_X0_putHeaps_r1_8 {K : Nat × (Nat → Int32)} {x : Nat} {Q : tq_O → tq_S → Prop} {B8 : Int32 → tq_S → Prop} {a1 : Int32} {a2 : Int32} {a3 : Int32} {a4 : Int32} {z : tq_S} (hB8 : ∀ (b4 : Int32) (z : tq_S), B8 b4 z → tq_T K 2 x mm_X0_putHeaps 8 [.ref 48, .int a1, .int a2, .int a3, .int b4, .null] [] z Q) (h : wb_X0_putHeaps_r1_8 B8 Q a1 a2 a3 a4 z) : tq_T K 2 x mm_X0_putHeaps 8 [.ref 48, .int a1, .int a2, .int a3, .int a4, .null] [] z Q := by
  unfold wb_X0_putHeaps_r1_8 at h
  refine tq_s_iload (i := 4) (by decide +kernel) rfl ?_
  refine tq_s_iload_n (kk := 1) (by decide +kernel) rfl ?_
  refine tq_icmp_gt (off := 39) (tgt := 50) (by decide +kernel) (by decide +kernel) (fun hc => ?_) (fun hc => ?_)
  · replace h := h.1 hc
    exact tq_to (tq_lk1 (tq_lk1 (tq_lk1 (tq_ld1 (tq_ld1 (tq_lk1 tq_l0)))))) (ac_X0_putHeaps_r1_50 h)
  · replace h := h.2 hc
    refine tq_k_ic (n := 1) (v := (1 : Int32)) (by decide +kernel) kc_1 ?_
    refine tq_s_istore (i := 5) (L9 := [.ref 48, .int a1, .int a2, .int a3, .int a4, .int (1 : Int32)]) (by decide +kernel) (by decide) rfl ?_
    exact ac_X0_putHeaps_r1_17 hB8 h
theorem ac_X0_putHeaps_r1_8 {K : Nat × (Nat → Int32)} {x : Nat} {Q : tq_O → tq_S → Prop} {a1 : Int32} {a2 : Int32} {a3 : Int32} {a4 : Int32} {z : tq_S} (h : wc_X0_putHeaps_r1_8 Q a1 a2 a3 a4 z) : tq_T K 2 x mm_X0_putHeaps 8 [.ref 48, .int a1, .int a2, .int a3, .int a4, .null] [] z Q :=
  tq_lp_T (σ := Int32 × tq_S) (s := (a4, z)) (G := fun s => tq_T K 2 x mm_X0_putHeaps 8 [.ref 48, .int a1, .int a2, .int a3, .int s.1, .null] [] s.2 Q) (fun B hB s h => ab_X0_putHeaps_r1_8 (fun b4 z h => hB (b4, z) h) h) h
def wm_X0_putHeaps_r1 (a1 : Int32) (a2 : Int32) (a3 : Int32) (z : tq_S) (Q : tq_O → tq_S → Prop) : Prop := wm_X0_put_r1 (1 : Int64) z (tq_wv fun z1 => wc_X0_putHeaps_r1_8 Q a1 a2 a3 (1 : Int32) z1)
theorem am_X0_putHeaps_r1 {K : Nat × (Nat → Int32)} {x : Nat} {z : tq_S} {Q : tq_O → tq_S → Prop} {a1 : Int32} {a2 : Int32} {a3 : Int32} (h : wm_X0_putHeaps_r1 a1 a2 a3 z Q) : tq_M K 2 x mm_X0_putHeaps [.ref 48, .int a1, .int a2, .int a3] z Q := by
  unfold wm_X0_putHeaps_r1 at h
  refine tq_enter (L := [.ref 48, .int a1, .int a2, .int a3, .null, .null]) mf_X0_putHeaps.1 rfl rfl (Nat.le_of_ble_eq_true rfl) ?_
  refine tq_s_aload_n (kk := 0) (by decide +kernel) rfl ?_
  refine tq_k_lc (n := 1) (v := (1 : Int64)) (by decide +kernel) (by decide +kernel) ?_
  refine tq_callV (as := [.long (1 : Int64)]) (st := []) (d1 := 1) (x1 := 0) (x2 := x) (by decide +kernel) ln_0_33 mf_X0_put rfl sh_48 rfl (by decide) np_X0_put rfl (Nat.le_of_ble_eq_true rfl) (by decide) (Nat.zero_add _).symm (tq_M_mono (am_X0_put_r1 h) ?_)
  refine tq_wv_e (fun z1 h => ?_)
  refine tq_k_ic (n := 1) (v := (1 : Int32)) (by decide +kernel) kc_1 ?_
  refine tq_s_istore (i := 4) (L9 := [.ref 48, .int a1, .int a2, .int a3, .int (1 : Int32), .null]) (by decide +kernel) (by decide) rfl ?_
  exact ac_X0_putHeaps_r1_8 h
def wc_X11_hexagonsAreSound_67 (B2 : Int32 → tq_S → Prop) (B9 : Int32 → tq_S → Prop) (Q : tq_O → tq_S → Prop) (a1 : Int32) (a2 : Int32) (z : tq_S) : Prop := ∀ v101 : Int32, v101 = a2 + (1 : Int32) → B9 v101 z
theorem ac_X11_hexagonsAreSound_67 {K : Nat × (Nat → Int32)} {x : Nat} {Q : tq_O → tq_S → Prop} {B2 : Int32 → tq_S → Prop} {B9 : Int32 → tq_S → Prop} {a1 : Int32} {a2 : Int32} {z : tq_S} (hB2 : ∀ (b1 : Int32) (z : tq_S), B2 b1 z → tq_T K 5 x mm_X11_hexagonsAreSound 2 [.ref 0, .int b1, .null, .null] [] z Q) (hB9 : ∀ (b2 : Int32) (z : tq_S), B9 b2 z → tq_T K 5 x mm_X11_hexagonsAreSound 9 [.ref 0, .int a1, .int b2, .null] [] z Q) (h : wc_X11_hexagonsAreSound_67 B2 B9 Q a1 a2 z) : tq_T K 5 x mm_X11_hexagonsAreSound 67 [.ref 0, .int a1, .int a2, .null] [] z Q := by
  unfold wc_X11_hexagonsAreSound_67 at h
  refine tq_g_iinc (i := 2) (fun v101 => [.ref 0, .int a1, .int v101, .null]) (by decide +kernel) rfl (1 : Int32) kc_1 (fun _ => rfl) (fun v101 ev101 => ?_)
  replace h := h v101 ev101
  refine tq_s_goto (off := -61) (tgt := 9) (by decide +kernel) (by decide +kernel) ?_
  exact hB9 _ _ h
def wb_X11_hexagonsAreSound_16 (B2 : Int32 → tq_S → Prop) (B9 : Int32 → tq_S → Prop) (B16 : Int32 → tq_S → Prop) (Q : tq_O → tq_S → Prop) (a1 : Int32) (a2 : Int32) (a3 : Int32) (z : tq_S) : Prop := (((3 : Int32) < a3 → wc_X11_hexagonsAreSound_67 B2 B9 Q a1 a2 z) ∧ (¬ (3 : Int32) < a3 → wm_X3_countHexagon a1 a2 a3 z (tq_wv fun z101 => wm_X0_putHeaps_r1 a1 a2 a3 z101 (tq_wv fun z102 => wm_X0_isLike z102 (tq_wi fun r104 z103 => ((¬ r104 = 0 → ∀ v105 : Int32, v105 = a3 + (1 : Int32) → B16 v105 z103) ∧ (r104 = 0 → Q (.inl (some (.int (0 : Int32)))) z103)))))))
def wc_X11_hexagonsAreSound_16 (B2 : Int32 → tq_S → Prop) (B9 : Int32 → tq_S → Prop) (Q : tq_O → tq_S → Prop) (a1 : Int32) (a2 : Int32) (a3 : Int32) (z : tq_S) : Prop := tq_lp (σ := Int32 × tq_S) (fun B s => wb_X11_hexagonsAreSound_16 B2 B9 (fun b3 z => B (b3, z)) Q a1 a2 s.1 s.2) (a3, z)
theorem ab_X11_hexagonsAreSound_16 {K : Nat × (Nat → Int32)} {x : Nat} {Q : tq_O → tq_S → Prop} {B2 : Int32 → tq_S → Prop} {B9 : Int32 → tq_S → Prop} {B16 : Int32 → tq_S → Prop} {a1 : Int32} {a2 : Int32} {a3 : Int32} {z : tq_S} (hB2 : ∀ (b1 : Int32) (z : tq_S), B2 b1 z → tq_T K 5 x mm_X11_hexagonsAreSound 2 [.ref 0, .int b1, .null, .null] [] z Q) (hB9 : ∀ (b2 : Int32) (z : tq_S), B9 b2 z → tq_T K 5 x mm_X11_hexagonsAreSound 9 [.ref 0, .int a1, .int b2, .null] [] z Q) (hB16 : ∀ (b3 : Int32) (z : tq_S), B16 b3 z → tq_T K 5 x mm_X11_hexagonsAreSound 16 [.ref 0, .int a1, .int a2, .int b3] [] z Q) (h : wb_X11_hexagonsAreSound_16 B2 B9 B16 Q a1 a2 a3 z) : tq_T K 5 x mm_X11_hexagonsAreSound 16 [.ref 0, .int a1, .int a2, .int a3] [] z Q := by
  unfold wb_X11_hexagonsAreSound_16 at h
  refine tq_s_iload_n (kk := 3) (by decide +kernel) rfl ?_
  refine tq_k_ic (n := 3) (v := (3 : Int32)) (by decide +kernel) kc_3 ?_
  refine tq_icmp_gt (off := 49) (tgt := 67) (by decide +kernel) (by decide +kernel) (fun hc => ?_) (fun hc => ?_)
  · replace h := h.1 hc
    exact tq_to (tq_lk1 (tq_lk1 (tq_lk1 (tq_ld1 tq_l0)))) (ac_X11_hexagonsAreSound_67 hB2 hB9 h)
  · replace h := h.2 hc
    refine tq_s_aload_n (kk := 0) (by decide +kernel) rfl ?_
    refine fg_11_42_0 rfl (by decide +kernel) ?_
    refine tq_s_iload_n (kk := 1) (by decide +kernel) rfl ?_
    refine tq_s_iload_n (kk := 2) (by decide +kernel) rfl ?_
    refine tq_s_iload_n (kk := 3) (by decide +kernel) rfl ?_
    refine tq_s_aload_n (kk := 0) (by decide +kernel) rfl ?_
    refine fg_11_86_0 rfl (by decide +kernel) ?_
    refine tq_callVN (as := [.int a1, .int a2, .int a3, .ref 46]) (st := []) (d1 := 4) (x1 := 0) (x2 := x) (by decide +kernel) ln_11_412 mf_X3_countHexagon rfl sh_16 rfl (by decide) np_X3_countHexagon rfl (Nat.le_of_ble_eq_true rfl) (by decide) (Nat.zero_add _).symm (tq_M_mono (am_X3_countHexagon h) ?_)
    refine tq_wv_e (fun z101 h => ?_)
    refine tq_s_aload_n (kk := 0) (by decide +kernel) rfl ?_
    refine fg_11_90_0 rfl (by decide +kernel) ?_
    refine tq_s_iload_n (kk := 1) (by decide +kernel) rfl ?_
    refine tq_s_iload_n (kk := 2) (by decide +kernel) rfl ?_
    refine tq_s_iload_n (kk := 3) (by decide +kernel) rfl ?_
    refine tq_callVN (as := [.int a1, .int a2, .int a3]) (st := []) (d1 := 2) (x1 := 0) (x2 := x) (by decide +kernel) ln_11_416 mf_X0_putHeaps rfl sh_48 rfl (by decide) np_X0_putHeaps rfl (Nat.le_of_ble_eq_true rfl) (by decide) (Nat.zero_add _).symm (tq_M_mono (am_X0_putHeaps_r1 h) ?_)
    refine tq_wv_e (fun z102 h => ?_)
    refine tq_s_aload_n (kk := 0) (by decide +kernel) rfl ?_
    refine fg_11_86_0 rfl (by decide +kernel) ?_
    refine tq_s_aload_n (kk := 0) (by decide +kernel) rfl ?_
    refine fg_11_90_0 rfl (by decide +kernel) ?_
    refine tq_callVN (as := [.ref 48]) (st := []) (d1 := 0) (x1 := 0) (x2 := x) (by decide +kernel) ln_11_503 mf_X0_isLike rfl sh_46 rfl (by decide) np_X0_isLike rfl (Nat.le_of_ble_eq_true rfl) (by decide) (Nat.zero_add _).symm (tq_M_mono (am_X0_isLike h) ?_)
    refine tq_wi_e (fun r104 z103 h => ?_)
    refine tq_if_ne (off := 5) (tgt := 61) (by decide +kernel) (by decide +kernel) (fun hc => ?_) (fun hc => ?_)
    · replace h := h.1 hc
      refine tq_g_iinc (i := 3) (fun v105 => [.ref 0, .int a1, .int a2, .int v105]) (by decide +kernel) rfl (1 : Int32) kc_1 (fun _ => rfl) (fun v105 ev105 => ?_)
      replace h := h v105 ev105
      refine tq_s_goto (off := -48) (tgt := 16) (by decide +kernel) (by decide +kernel) ?_
      exact hB16 _ _ h
    · replace h := h.2 hc
      refine tq_k_ic (n := 0) (v := (0 : Int32)) (by decide +kernel) kc_0 ?_
      exact tq_ret_z (st := []) (ty := .boolean) (by decide +kernel) (by decide +kernel) rfl h
theorem ac_X11_hexagonsAreSound_16 {K : Nat × (Nat → Int32)} {x : Nat} {Q : tq_O → tq_S → Prop} {B2 : Int32 → tq_S → Prop} {B9 : Int32 → tq_S → Prop} {a1 : Int32} {a2 : Int32} {a3 : Int32} {z : tq_S} (hB2 : ∀ (b1 : Int32) (z : tq_S), B2 b1 z → tq_T K 5 x mm_X11_hexagonsAreSound 2 [.ref 0, .int b1, .null, .null] [] z Q) (hB9 : ∀ (b2 : Int32) (z : tq_S), B9 b2 z → tq_T K 5 x mm_X11_hexagonsAreSound 9 [.ref 0, .int a1, .int b2, .null] [] z Q) (h : wc_X11_hexagonsAreSound_16 B2 B9 Q a1 a2 a3 z) : tq_T K 5 x mm_X11_hexagonsAreSound 16 [.ref 0, .int a1, .int a2, .int a3] [] z Q :=
  tq_lp_T (σ := Int32 × tq_S) (s := (a3, z)) (G := fun s => tq_T K 5 x mm_X11_hexagonsAreSound 16 [.ref 0, .int a1, .int a2, .int s.1] [] s.2 Q) (fun B hB s h => ab_X11_hexagonsAreSound_16 hB2 hB9 (fun b3 z h => hB (b3, z) h) h) h
def wc_X11_hexagonsAreSound_73 (B2 : Int32 → tq_S → Prop) (Q : tq_O → tq_S → Prop) (a1 : Int32) (z : tq_S) : Prop := ∀ v101 : Int32, v101 = a1 + (1 : Int32) → B2 v101 z
theorem ac_X11_hexagonsAreSound_73 {K : Nat × (Nat → Int32)} {x : Nat} {Q : tq_O → tq_S → Prop} {B2 : Int32 → tq_S → Prop} {a1 : Int32} {z : tq_S} (hB2 : ∀ (b1 : Int32) (z : tq_S), B2 b1 z → tq_T K 5 x mm_X11_hexagonsAreSound 2 [.ref 0, .int b1, .null, .null] [] z Q) (h : wc_X11_hexagonsAreSound_73 B2 Q a1 z) : tq_T K 5 x mm_X11_hexagonsAreSound 73 [.ref 0, .int a1, .null, .null] [] z Q := by
  unfold wc_X11_hexagonsAreSound_73 at h
  refine tq_g_iinc (i := 1) (fun v101 => [.ref 0, .int v101, .null, .null]) (by decide +kernel) rfl (1 : Int32) kc_1 (fun _ => rfl) (fun v101 ev101 => ?_)
  replace h := h v101 ev101
  refine tq_s_goto (off := -74) (tgt := 2) (by decide +kernel) (by decide +kernel) ?_
  exact hB2 _ _ h
def wb_X11_hexagonsAreSound_9 (B2 : Int32 → tq_S → Prop) (B9 : Int32 → tq_S → Prop) (Q : tq_O → tq_S → Prop) (a1 : Int32) (a2 : Int32) (z : tq_S) : Prop := (((3 : Int32) < a2 → wc_X11_hexagonsAreSound_73 B2 Q a1 z) ∧ (¬ (3 : Int32) < a2 → wc_X11_hexagonsAreSound_16 B2 B9 Q a1 a2 (1 : Int32) z))
def wc_X11_hexagonsAreSound_9 (B2 : Int32 → tq_S → Prop) (Q : tq_O → tq_S → Prop) (a1 : Int32) (a2 : Int32) (z : tq_S) : Prop := tq_lp (σ := Int32 × tq_S) (fun B s => wb_X11_hexagonsAreSound_9 B2 (fun b2 z => B (b2, z)) Q a1 s.1 s.2) (a2, z)
theorem ab_X11_hexagonsAreSound_9 {K : Nat × (Nat → Int32)} {x : Nat} {Q : tq_O → tq_S → Prop} {B2 : Int32 → tq_S → Prop} {B9 : Int32 → tq_S → Prop} {a1 : Int32} {a2 : Int32} {z : tq_S} (hB2 : ∀ (b1 : Int32) (z : tq_S), B2 b1 z → tq_T K 5 x mm_X11_hexagonsAreSound 2 [.ref 0, .int b1, .null, .null] [] z Q) (hB9 : ∀ (b2 : Int32) (z : tq_S), B9 b2 z → tq_T K 5 x mm_X11_hexagonsAreSound 9 [.ref 0, .int a1, .int b2, .null] [] z Q) (h : wb_X11_hexagonsAreSound_9 B2 B9 Q a1 a2 z) : tq_T K 5 x mm_X11_hexagonsAreSound 9 [.ref 0, .int a1, .int a2, .null] [] z Q := by
  unfold wb_X11_hexagonsAreSound_9 at h
  refine tq_s_iload_n (kk := 2) (by decide +kernel) rfl ?_
  refine tq_k_ic (n := 3) (v := (3 : Int32)) (by decide +kernel) kc_3 ?_
  refine tq_icmp_gt (off := 62) (tgt := 73) (by decide +kernel) (by decide +kernel) (fun hc => ?_) (fun hc => ?_)
  · replace h := h.1 hc
    exact tq_to (tq_lk1 (tq_lk1 (tq_ld1 (tq_lk1 tq_l0)))) (ac_X11_hexagonsAreSound_73 hB2 h)
  · replace h := h.2 hc
    refine tq_k_ic (n := 1) (v := (1 : Int32)) (by decide +kernel) kc_1 ?_
    refine tq_s_istore_n (kk := 3) (L9 := [.ref 0, .int a1, .int a2, .int (1 : Int32)]) (by decide +kernel) (by decide) rfl ?_
    exact ac_X11_hexagonsAreSound_16 hB2 hB9 h
theorem ac_X11_hexagonsAreSound_9 {K : Nat × (Nat → Int32)} {x : Nat} {Q : tq_O → tq_S → Prop} {B2 : Int32 → tq_S → Prop} {a1 : Int32} {a2 : Int32} {z : tq_S} (hB2 : ∀ (b1 : Int32) (z : tq_S), B2 b1 z → tq_T K 5 x mm_X11_hexagonsAreSound 2 [.ref 0, .int b1, .null, .null] [] z Q) (h : wc_X11_hexagonsAreSound_9 B2 Q a1 a2 z) : tq_T K 5 x mm_X11_hexagonsAreSound 9 [.ref 0, .int a1, .int a2, .null] [] z Q :=
  tq_lp_T (σ := Int32 × tq_S) (s := (a2, z)) (G := fun s => tq_T K 5 x mm_X11_hexagonsAreSound 9 [.ref 0, .int a1, .int s.1, .null] [] s.2 Q) (fun B hB s h => ab_X11_hexagonsAreSound_9 hB2 (fun b2 z h => hB (b2, z) h) h) h
def wb_X11_hexagonsAreSound_2 (B2 : Int32 → tq_S → Prop) (Q : tq_O → tq_S → Prop) (a1 : Int32) (z : tq_S) : Prop := (((3 : Int32) < a1 → Q (.inl (some (.int (1 : Int32)))) z) ∧ (¬ (3 : Int32) < a1 → wc_X11_hexagonsAreSound_9 B2 Q a1 (1 : Int32) z))
def wc_X11_hexagonsAreSound_2 (Q : tq_O → tq_S → Prop) (a1 : Int32) (z : tq_S) : Prop := tq_lp (σ := Int32 × tq_S) (fun B s => wb_X11_hexagonsAreSound_2 (fun b1 z => B (b1, z)) Q s.1 s.2) (a1, z)
theorem ab_X11_hexagonsAreSound_2 {K : Nat × (Nat → Int32)} {x : Nat} {Q : tq_O → tq_S → Prop} {B2 : Int32 → tq_S → Prop} {a1 : Int32} {z : tq_S} (hB2 : ∀ (b1 : Int32) (z : tq_S), B2 b1 z → tq_T K 5 x mm_X11_hexagonsAreSound 2 [.ref 0, .int b1, .null, .null] [] z Q) (h : wb_X11_hexagonsAreSound_2 B2 Q a1 z) : tq_T K 5 x mm_X11_hexagonsAreSound 2 [.ref 0, .int a1, .null, .null] [] z Q := by
  unfold wb_X11_hexagonsAreSound_2 at h
  refine tq_s_iload_n (kk := 1) (by decide +kernel) rfl ?_
  refine tq_k_ic (n := 3) (v := (3 : Int32)) (by decide +kernel) kc_3 ?_
  refine tq_icmp_gt (off := 75) (tgt := 79) (by decide +kernel) (by decide +kernel) (fun hc => ?_) (fun hc => ?_)
  · replace h := h.1 hc
    refine tq_k_ic (n := 1) (v := (1 : Int32)) (by decide +kernel) kc_1 ?_
    exact tq_ret_z (st := []) (ty := .boolean) (by decide +kernel) (by decide +kernel) rfl h
  · replace h := h.2 hc
    refine tq_k_ic (n := 1) (v := (1 : Int32)) (by decide +kernel) kc_1 ?_
    refine tq_s_istore_n (kk := 2) (L9 := [.ref 0, .int a1, .int (1 : Int32), .null]) (by decide +kernel) (by decide) rfl ?_
    exact ac_X11_hexagonsAreSound_9 hB2 h
theorem ac_X11_hexagonsAreSound_2 {K : Nat × (Nat → Int32)} {x : Nat} {Q : tq_O → tq_S → Prop} {a1 : Int32} {z : tq_S} (h : wc_X11_hexagonsAreSound_2 Q a1 z) : tq_T K 5 x mm_X11_hexagonsAreSound 2 [.ref 0, .int a1, .null, .null] [] z Q :=
  tq_lp_T (σ := Int32 × tq_S) (s := (a1, z)) (G := fun s => tq_T K 5 x mm_X11_hexagonsAreSound 2 [.ref 0, .int s.1, .null, .null] [] s.2 Q) (fun B hB s h => ab_X11_hexagonsAreSound_2 (fun b1 z h => hB (b1, z) h) h) h
def wm_X11_hexagonsAreSound  (z : tq_S) (Q : tq_O → tq_S → Prop) : Prop := wc_X11_hexagonsAreSound_2 Q (1 : Int32) z
theorem am_X11_hexagonsAreSound {K : Nat × (Nat → Int32)} {x : Nat} {z : tq_S} {Q : tq_O → tq_S → Prop}  (h : wm_X11_hexagonsAreSound z Q) : tq_M K 5 x mm_X11_hexagonsAreSound [.ref 0] z Q := by
  unfold wm_X11_hexagonsAreSound at h
  refine tq_enter (L := [.ref 0, .null, .null, .null]) mf_X11_hexagonsAreSound.1 rfl rfl (Nat.le_of_ble_eq_true rfl) ?_
  refine tq_k_ic (n := 1) (v := (1 : Int32)) (by decide +kernel) kc_1 ?_
  refine tq_s_istore_n (kk := 1) (L9 := [.ref 0, .int (1 : Int32), .null, .null]) (by decide +kernel) (by decide) rfl ?_
  exact ac_X11_hexagonsAreSound_2 h
def wm_X11_isSound  (z : tq_S) (Q : tq_O → tq_S → Prop) : Prop := wm_X11_countsAgree z (tq_wi fun r2 z1 => ((r2 = 0 → Q (.inl (some (.int (0 : Int32)))) z1) ∧ (¬ r2 = 0 → wm_X11_numberIsSound z1 (tq_wi fun r4 z3 => ((r4 = 0 → Q (.inl (some (.int (0 : Int32)))) z3) ∧ (¬ r4 = 0 → wm_X11_flipsAreSound z3 (tq_wi fun r6 z5 => ((r6 = 0 → Q (.inl (some (.int (0 : Int32)))) z5) ∧ (¬ r6 = 0 → wm_X11_piecesAreSound z5 (tq_wi fun r8 z7 => ((r8 = 0 → Q (.inl (some (.int (0 : Int32)))) z7) ∧ (¬ r8 = 0 → wm_X11_rolesAreSound z7 (tq_wi fun r10 z9 => ((r10 = 0 → Q (.inl (some (.int (0 : Int32)))) z9) ∧ (¬ r10 = 0 → wm_X11_exactIsSound z9 (tq_wi fun r12 z11 => ((r12 = 0 → Q (.inl (some (.int (0 : Int32)))) z11) ∧ (¬ r12 = 0 → wm_X11_stripsAreSound z11 (tq_wi fun r14 z13 => ((r14 = 0 → Q (.inl (some (.int (0 : Int32)))) z13) ∧ (¬ r14 = 0 → wm_X11_hexagonsAreSound z13 (tq_wi fun r16 z15 => ((r16 = 0 → Q (.inl (some (.int (0 : Int32)))) z15) ∧ (¬ r16 = 0 → Q (.inl (some (.int (1 : Int32)))) z15))))))))))))))))))))))))
theorem am_X11_isSound {K : Nat × (Nat → Int32)} {x : Nat} {z : tq_S} {Q : tq_O → tq_S → Prop}  (h : wm_X11_isSound z Q) : tq_M K 91 x mm_X11_isSound [.ref 0] z Q := by
  unfold wm_X11_isSound at h
  refine tq_enter (L := [.ref 0]) mf_X11_isSound.1 rfl rfl (Nat.le_of_ble_eq_true rfl) ?_
  refine tq_s_aload_n (kk := 0) (by decide +kernel) rfl ?_
  refine tq_callV (as := []) (st := []) (d1 := 5) (x1 := 0) (x2 := x) (by decide +kernel) ln_11_450 mf_X11_countsAgree rfl sh_0 rfl (by decide) np_X11_countsAgree rfl (Nat.le_of_ble_eq_true rfl) (by decide) (Nat.zero_add _).symm (tq_M_mono (am_X11_countsAgree h) ?_)
  refine tq_wi_e (fun r2 z1 h => ?_)
  refine tq_if_eq (off := 56) (tgt := 60) (by decide +kernel) (by decide +kernel) (fun hc => ?_) (fun hc => ?_)
  · replace h := h.1 hc
    refine tq_k_ic (n := 0) (v := (0 : Int32)) (by decide +kernel) kc_0 ?_
    exact tq_ret_z (st := []) (ty := .boolean) (by decide +kernel) (by decide +kernel) rfl h
  · replace h := h.2 hc
    refine tq_s_aload_n (kk := 0) (by decide +kernel) rfl ?_
    refine tq_callV (as := []) (st := []) (d1 := 4) (x1 := 0) (x2 := x) (by decide +kernel) ln_11_453 mf_X11_numberIsSound rfl sh_0 rfl (by decide) np_X11_numberIsSound rfl (Nat.le_of_ble_eq_true rfl) (by decide) (Nat.zero_add _).symm (tq_M_mono (am_X11_numberIsSound h) ?_)
    refine tq_wi_e (fun r4 z3 h => ?_)
    refine tq_if_eq (off := 49) (tgt := 60) (by decide +kernel) (by decide +kernel) (fun hc => ?_) (fun hc => ?_)
    · replace h := h.1 hc
      refine tq_k_ic (n := 0) (v := (0 : Int32)) (by decide +kernel) kc_0 ?_
      exact tq_ret_z (st := []) (ty := .boolean) (by decide +kernel) (by decide +kernel) rfl h
    · replace h := h.2 hc
      refine tq_s_aload_n (kk := 0) (by decide +kernel) rfl ?_
      refine tq_callV (as := []) (st := []) (d1 := 5) (x1 := 0) (x2 := x) (by decide +kernel) ln_11_456 mf_X11_flipsAreSound rfl sh_0 rfl (by decide) np_X11_flipsAreSound rfl (Nat.le_of_ble_eq_true rfl) (by decide) (Nat.zero_add _).symm (tq_M_mono (am_X11_flipsAreSound h) ?_)
      refine tq_wi_e (fun r6 z5 h => ?_)
      refine tq_if_eq (off := 42) (tgt := 60) (by decide +kernel) (by decide +kernel) (fun hc => ?_) (fun hc => ?_)
      · replace h := h.1 hc
        refine tq_k_ic (n := 0) (v := (0 : Int32)) (by decide +kernel) kc_0 ?_
        exact tq_ret_z (st := []) (ty := .boolean) (by decide +kernel) (by decide +kernel) rfl h
      · replace h := h.2 hc
        refine tq_s_aload_n (kk := 0) (by decide +kernel) rfl ?_
        refine tq_callV (as := []) (st := []) (d1 := 5) (x1 := 0) (x2 := x) (by decide +kernel) ln_11_459 mf_X11_piecesAreSound rfl sh_0 rfl (by decide) np_X11_piecesAreSound rfl (Nat.le_of_ble_eq_true rfl) (by decide) (Nat.zero_add _).symm (tq_M_mono (am_X11_piecesAreSound h) ?_)
        refine tq_wi_e (fun r8 z7 h => ?_)
        refine tq_if_eq (off := 35) (tgt := 60) (by decide +kernel) (by decide +kernel) (fun hc => ?_) (fun hc => ?_)
        · replace h := h.1 hc
          refine tq_k_ic (n := 0) (v := (0 : Int32)) (by decide +kernel) kc_0 ?_
          exact tq_ret_z (st := []) (ty := .boolean) (by decide +kernel) (by decide +kernel) rfl h
        · replace h := h.2 hc
          refine tq_s_aload_n (kk := 0) (by decide +kernel) rfl ?_
          refine tq_callV (as := []) (st := []) (d1 := 5) (x1 := 0) (x2 := x) (by decide +kernel) ln_11_462 mf_X11_rolesAreSound rfl sh_0 rfl (by decide) np_X11_rolesAreSound rfl (Nat.le_of_ble_eq_true rfl) (by decide) (Nat.zero_add _).symm (tq_M_mono (am_X11_rolesAreSound h) ?_)
          refine tq_wi_e (fun r10 z9 h => ?_)
          refine tq_if_eq (off := 28) (tgt := 60) (by decide +kernel) (by decide +kernel) (fun hc => ?_) (fun hc => ?_)
          · replace h := h.1 hc
            refine tq_k_ic (n := 0) (v := (0 : Int32)) (by decide +kernel) kc_0 ?_
            exact tq_ret_z (st := []) (ty := .boolean) (by decide +kernel) (by decide +kernel) rfl h
          · replace h := h.2 hc
            refine tq_s_aload_n (kk := 0) (by decide +kernel) rfl ?_
            refine tq_callV (as := []) (st := []) (d1 := 90) (x1 := 0) (x2 := x) (by decide +kernel) ln_11_465 mf_X11_exactIsSound rfl sh_0 rfl (by decide) np_X11_exactIsSound rfl (Nat.le_of_ble_eq_true rfl) (by decide) (Nat.zero_add _).symm (tq_M_mono (am_X11_exactIsSound h) ?_)
            refine tq_wi_e (fun r12 z11 h => ?_)
            refine tq_if_eq (off := 21) (tgt := 60) (by decide +kernel) (by decide +kernel) (fun hc => ?_) (fun hc => ?_)
            · replace h := h.1 hc
              refine tq_k_ic (n := 0) (v := (0 : Int32)) (by decide +kernel) kc_0 ?_
              exact tq_ret_z (st := []) (ty := .boolean) (by decide +kernel) (by decide +kernel) rfl h
            · replace h := h.2 hc
              refine tq_s_aload_n (kk := 0) (by decide +kernel) rfl ?_
              refine tq_callV (as := []) (st := []) (d1 := 4) (x1 := 0) (x2 := x) (by decide +kernel) ln_11_468 mf_X11_stripsAreSound rfl sh_0 rfl (by decide) np_X11_stripsAreSound rfl (Nat.le_of_ble_eq_true rfl) (by decide) (Nat.zero_add _).symm (tq_M_mono (am_X11_stripsAreSound h) ?_)
              refine tq_wi_e (fun r14 z13 h => ?_)
              refine tq_if_eq (off := 14) (tgt := 60) (by decide +kernel) (by decide +kernel) (fun hc => ?_) (fun hc => ?_)
              · replace h := h.1 hc
                refine tq_k_ic (n := 0) (v := (0 : Int32)) (by decide +kernel) kc_0 ?_
                exact tq_ret_z (st := []) (ty := .boolean) (by decide +kernel) (by decide +kernel) rfl h
              · replace h := h.2 hc
                refine tq_s_aload_n (kk := 0) (by decide +kernel) rfl ?_
                refine tq_callV (as := []) (st := []) (d1 := 5) (x1 := 0) (x2 := x) (by decide +kernel) ln_11_471 mf_X11_hexagonsAreSound rfl sh_0 rfl (by decide) np_X11_hexagonsAreSound rfl (Nat.le_of_ble_eq_true rfl) (by decide) (Nat.zero_add _).symm (tq_M_mono (am_X11_hexagonsAreSound h) ?_)
                refine tq_wi_e (fun r16 z15 h => ?_)
                refine tq_if_eq (off := 7) (tgt := 60) (by decide +kernel) (by decide +kernel) (fun hc => ?_) (fun hc => ?_)
                · replace h := h.1 hc
                  refine tq_k_ic (n := 0) (v := (0 : Int32)) (by decide +kernel) kc_0 ?_
                  exact tq_ret_z (st := []) (ty := .boolean) (by decide +kernel) (by decide +kernel) rfl h
                · replace h := h.2 hc
                  refine tq_k_ic (n := 1) (v := (1 : Int32)) (by decide +kernel) kc_1 ?_
                  refine tq_s_goto (off := 4) (tgt := 61) (by decide +kernel) (by decide +kernel) ?_
                  exact tq_ret_z (st := []) (ty := .boolean) (by decide +kernel) (by decide +kernel) rfl h
