def wm_X12_thrown  (z : tq_S) (Q : tq_O → tq_S → Prop) : Prop := Q (.inl (some (.int (tq_fi z 3264)))) z
theorem am_X12_thrown {K : Nat × (Nat → Int32)} {x : Nat} {z : tq_S} {Q : tq_O → tq_S → Prop}  (h : wm_X12_thrown z Q) : tq_M K 0 x mm_X12_thrown [.ref 51] z Q := by
  unfold wm_X12_thrown at h
  refine tq_enter (L := [.ref 51]) mf_X12_thrown.1 rfl rfl (Nat.le_of_ble_eq_true rfl) ?_
  refine tq_s_aload_n (kk := 0) (by decide +kernel) rfl ?_
  refine fg_12_129_51 rfl (by decide +kernel) ?_
  exact tq_ret_i (st := []) (by decide +kernel) rfl h
def wc_X12_isThrown_10 (Q : tq_O → tq_S → Prop) (a1 : Int32) (s0 : Int32) (z : tq_S) : Prop := ∀ z101 : tq_S, z101 = tq_sfi z 3264 s0 → tq_nz a1 ∧ Q (.inl (some (.int a1))) z101
theorem ac_X12_isThrown_10 {K : Nat × (Nat → Int32)} {x : Nat} {Q : tq_O → tq_S → Prop} {a1 : Int32} {s0 : Int32} {z : tq_S} (h : wc_X12_isThrown_10 Q a1 s0 z) : tq_T K 0 x mm_X12_isThrown 10 [.null, .int a1, .null] [.int s0, .ref 51] z Q := by
  unfold wc_X12_isThrown_10 at h
  refine fp_12_129_51 rfl (by decide +kernel) (fun z101 ez101 => ?_)
  replace h := h z101 ez101
  refine tq_s_iload_n (kk := 1) (by decide +kernel) rfl ?_
  exact tq_ret_z (st := []) (ty := .boolean) (by decide +kernel) (tq_nz_f h.1).1 rfl h.2
def wm_X12_isThrown (a1 : Int32) (a2 : Int32) (z : tq_S) (Q : tq_O → tq_S → Prop) : Prop := ((a1 = 0 → wc_X12_isThrown_10 Q a1 (0 : Int32) z) ∧ (¬ a1 = 0 → wc_X12_isThrown_10 Q a1 a2 z))
theorem am_X12_isThrown {K : Nat × (Nat → Int32)} {x : Nat} {z : tq_S} {Q : tq_O → tq_S → Prop} {a1 : Int32} {a2 : Int32} (h : wm_X12_isThrown a1 a2 z Q) : tq_M K 0 x mm_X12_isThrown [.ref 51, .int a1, .int a2] z Q := by
  unfold wm_X12_isThrown at h
  refine tq_enter (L := [.ref 51, .int a1, .int a2]) mf_X12_isThrown.1 rfl rfl (Nat.le_of_ble_eq_true rfl) ?_
  refine tq_s_aload_n (kk := 0) (by decide +kernel) rfl ?_
  refine tq_s_iload_n (kk := 1) (by decide +kernel) rfl ?_
  refine tq_if_eq (off := 7) (tgt := 9) (by decide +kernel) (by decide +kernel) (fun hc => ?_) (fun hc => ?_)
  · replace h := h.1 hc
    refine tq_k_ic (n := 0) (v := (0 : Int32)) (by decide +kernel) kc_0 ?_
    exact tq_to (tq_ld1 (tq_lk1 (tq_ld1 tq_l0))) (ac_X12_isThrown_10 h)
  · replace h := h.2 hc
    refine tq_s_iload_n (kk := 2) (by decide +kernel) rfl ?_
    refine tq_s_goto (off := 4) (tgt := 10) (by decide +kernel) (by decide +kernel) ?_
    exact tq_to (tq_ld1 (tq_lk1 (tq_ld1 tq_l0))) (ac_X12_isThrown_10 h)
def wm_X12_anew  (z : tq_S) (Q : tq_O → tq_S → Prop) : Prop := ∀ z1 : tq_S, z1 = tq_sfi z 3272 (0 : Int32) → ∀ z2 : tq_S, z2 = tq_sfi z1 3274 (0 : Int32) → ∀ z3 : tq_S, z3 = tq_sfi z2 3276 (0 : Int32) → Q (.inl none) z3
theorem am_X12_anew {K : Nat × (Nat → Int32)} {x : Nat} {z : tq_S} {Q : tq_O → tq_S → Prop}  (h : wm_X12_anew z Q) : tq_M K 0 x mm_X12_anew [.ref 51] z Q := by
  unfold wm_X12_anew at h
  refine tq_enter (L := [.ref 51]) mf_X12_anew.1 rfl rfl (Nat.le_of_ble_eq_true rfl) ?_
  refine tq_s_aload_n (kk := 0) (by decide +kernel) rfl ?_
  refine tq_k_ic (n := 0) (v := (0 : Int32)) (by decide +kernel) kc_0 ?_
  refine fp_12_132_51 rfl (by decide +kernel) ⟨by decide +kernel, by decide +kernel⟩ (fun z1 ez1 => ?_)
  replace h := h z1 ez1
  refine tq_s_aload_n (kk := 0) (by decide +kernel) rfl ?_
  refine tq_k_ic (n := 0) (v := (0 : Int32)) (by decide +kernel) kc_0 ?_
  refine fp_12_136_51 rfl (by decide +kernel) ⟨by decide +kernel, by decide +kernel⟩ (fun z2 ez2 => ?_)
  replace h := h z2 ez2
  refine tq_s_aload_n (kk := 0) (by decide +kernel) rfl ?_
  refine tq_k_ic (n := 0) (v := (0 : Int32)) (by decide +kernel) kc_0 ?_
  refine fp_12_139_51 rfl (by decide +kernel) (fun z3 ez3 => ?_)
  replace h := h z3 ez3
  exact tq_ret_v (st := []) (by decide +kernel) rfl h
def wc_X12_many_25 (B4 : Int32 → Int32 → tq_S → Prop) (Q : tq_O → tq_S → Prop) (a2 : Int32) (s0 : Int32) (s1 : Int32) (z : tq_S) : Prop := ∀ v101 : Int32, v101 = (s1 + s0) → ∀ v102 : Int32, v102 = a2 + (1 : Int32) → B4 v101 v102 z
theorem ac_X12_many_25 {K : Nat × (Nat → Int32)} {x : Nat} {Q : tq_O → tq_S → Prop} {B4 : Int32 → Int32 → tq_S → Prop} {a2 : Int32} {s0 : Int32} {s1 : Int32} {z : tq_S} (hB4 : ∀ (b1 : Int32) (b2 : Int32) (z : tq_S), B4 b1 b2 z → tq_T K 0 x mm_X12_many 4 [.ref 51, .int b1, .int b2] [] z Q) (h : wc_X12_many_25 B4 Q a2 s0 s1 z) : tq_T K 0 x mm_X12_many 25 [.ref 51, .null, .int a2] [.int s0, .int s1] z Q := by
  unfold wc_X12_many_25 at h
  refine tq_s_iadd (by decide +kernel) ?_
  refine tq_g_istore_n (kk := 1) (fun v101 => [.ref 51, .int v101, .int a2]) (by decide +kernel) (by decide) (fun _ => rfl) (fun v101 ev101 => ?_)
  replace h := h v101 ev101
  refine tq_g_iinc (i := 2) (fun v102 => [.ref 51, .int v101, .int v102]) (by decide +kernel) rfl (1 : Int32) kc_1 (fun _ => rfl) (fun v102 ev102 => ?_)
  replace h := h v102 ev102
  refine tq_s_goto (off := -26) (tgt := 4) (by decide +kernel) (by decide +kernel) ?_
  exact hB4 _ _ _ h
def wb_X12_many_4 (B4 : Int32 → Int32 → tq_S → Prop) (Q : tq_O → tq_S → Prop) (a1 : Int32) (a2 : Int32) (z : tq_S) : Prop := (((64 : Int32) ≤ a2 → Q (.inl (some (.int a1))) z) ∧ (¬ (64 : Int32) ≤ a2 → vp_in a2 64 ∧ (((tq_ai z 52 (Int32.toNatClampNeg a2)) = 0 → wc_X12_many_25 B4 Q a2 (0 : Int32) a1 z) ∧ (¬ (tq_ai z 52 (Int32.toNatClampNeg a2)) = 0 → wc_X12_many_25 B4 Q a2 (1 : Int32) a1 z))))
def wc_X12_many_4 (Q : tq_O → tq_S → Prop) (a1 : Int32) (a2 : Int32) (z : tq_S) : Prop := tq_lp (σ := Int32 × Int32 × tq_S) (fun B s => wb_X12_many_4 (fun b1 b2 z => B (b1, b2, z)) Q s.1 s.2.1 s.2.2) (a1, a2, z)
theorem ab_X12_many_4 {K : Nat × (Nat → Int32)} {x : Nat} {Q : tq_O → tq_S → Prop} {B4 : Int32 → Int32 → tq_S → Prop} {a1 : Int32} {a2 : Int32} {z : tq_S} (hB4 : ∀ (b1 : Int32) (b2 : Int32) (z : tq_S), B4 b1 b2 z → tq_T K 0 x mm_X12_many 4 [.ref 51, .int b1, .int b2] [] z Q) (h : wb_X12_many_4 B4 Q a1 a2 z) : tq_T K 0 x mm_X12_many 4 [.ref 51, .int a1, .int a2] [] z Q := by
  unfold wb_X12_many_4 at h
  refine tq_s_iload_n (kk := 2) (by decide +kernel) rfl ?_
  refine tq_k_bi (n := 64) (v := (64 : Int32)) (by decide +kernel) kb_64 ?_
  refine tq_icmp_ge (off := 26) (tgt := 33) (by decide +kernel) (by decide +kernel) (fun hc => ?_) (fun hc => ?_)
  · replace h := h.1 hc
    refine tq_s_iload_n (kk := 1) (by decide +kernel) rfl ?_
    exact tq_ret_i (st := []) (by decide +kernel) rfl h
  · replace h := h.2 hc
    refine tq_s_iload_n (kk := 1) (by decide +kernel) rfl ?_
    refine tq_s_aload_n (kk := 0) (by decide +kernel) rfl ?_
    refine fg_12_16_51 rfl (by decide +kernel) ?_
    refine tq_s_iload_n (kk := 2) (by decide +kernel) rfl ?_
    refine tq_s_zald (by decide +kernel) sh_52 h.1 ?_
    replace h := h.2
    refine tq_if_eq (off := 7) (tgt := 24) (by decide +kernel) (by decide +kernel) (fun hc => ?_) (fun hc => ?_)
    · replace h := h.1 hc
      refine tq_k_ic (n := 0) (v := (0 : Int32)) (by decide +kernel) kc_0 ?_
      exact tq_to (tq_lk1 (tq_ld1 (tq_lk1 tq_l0))) (ac_X12_many_25 hB4 h)
    · replace h := h.2 hc
      refine tq_k_ic (n := 1) (v := (1 : Int32)) (by decide +kernel) kc_1 ?_
      refine tq_s_goto (off := 4) (tgt := 25) (by decide +kernel) (by decide +kernel) ?_
      exact tq_to (tq_lk1 (tq_ld1 (tq_lk1 tq_l0))) (ac_X12_many_25 hB4 h)
theorem ac_X12_many_4 {K : Nat × (Nat → Int32)} {x : Nat} {Q : tq_O → tq_S → Prop} {a1 : Int32} {a2 : Int32} {z : tq_S} (h : wc_X12_many_4 Q a1 a2 z) : tq_T K 0 x mm_X12_many 4 [.ref 51, .int a1, .int a2] [] z Q :=
  tq_lp_T (σ := Int32 × Int32 × tq_S) (s := (a1, a2, z)) (G := fun s => tq_T K 0 x mm_X12_many 4 [.ref 51, .int s.1, .int s.2.1] [] s.2.2 Q) (fun B hB s h => ab_X12_many_4 (fun b1 b2 z h => hB (b1, b2, z) h) h) h
def wm_X12_many  (z : tq_S) (Q : tq_O → tq_S → Prop) : Prop := wc_X12_many_4 Q (0 : Int32) (0 : Int32) z
theorem am_X12_many {K : Nat × (Nat → Int32)} {x : Nat} {z : tq_S} {Q : tq_O → tq_S → Prop}  (h : wm_X12_many z Q) : tq_M K 0 x mm_X12_many [.ref 51] z Q := by
  unfold wm_X12_many at h
  refine tq_enter (L := [.ref 51, .null, .null]) mf_X12_many.1 rfl rfl (Nat.le_of_ble_eq_true rfl) ?_
  refine tq_k_ic (n := 0) (v := (0 : Int32)) (by decide +kernel) kc_0 ?_
  refine tq_s_istore_n (kk := 1) (L9 := [.ref 51, .int (0 : Int32), .null]) (by decide +kernel) (by decide) rfl ?_
  refine tq_k_ic (n := 0) (v := (0 : Int32)) (by decide +kernel) kc_0 ?_
  refine tq_s_istore_n (kk := 2) (L9 := [.ref 51, .int (0 : Int32), .int (0 : Int32)]) (by decide +kernel) (by decide) rfl ?_
  exact ac_X12_many_4 h
def wc_X12_rectangle_68 (B22 : Int32 → tq_S → Prop) (Q : tq_O → tq_S → Prop) (a3 : Int32) (a4 : Int32) (s0 : Int32) (s1 : Int32) (z : tq_S) : Prop := vp_in s1 64 ∧ ∀ z101 : tq_S, z101 = tq_sai z 52 (upd (tq_ai z 52) (Int32.toNatClampNeg s1) (vp_nar .boolean s0)) → ∀ v102 : Int32, v102 = a4 + (1 : Int32) → B22 v102 z101
theorem ac_X12_rectangle_68 {K : Nat × (Nat → Int32)} {x : Nat} {Q : tq_O → tq_S → Prop} {B22 : Int32 → tq_S → Prop} {a3 : Int32} {a4 : Int32} {s0 : Int32} {s1 : Int32} {z : tq_S} (hB22 : ∀ (b4 : Int32) (z : tq_S), B22 b4 z → tq_T K 1 x mm_X12_rectangle 22 [.ref 51, .null, .null, .int a3, .int b4] [] z Q) (h : wc_X12_rectangle_68 B22 Q a3 a4 s0 s1 z) : tq_T K 1 x mm_X12_rectangle 68 [.ref 51, .null, .null, .int a3, .int a4] [.int s0, .int s1, .ref 52] z Q := by
  unfold wc_X12_rectangle_68 at h
  refine tq_g_zast (by decide +kernel) sh_52 h.1 (fun z101 ez101 => ?_)
  replace h := h.2 z101 ez101
  refine tq_g_iinc (i := 4) (fun v102 => [.ref 51, .null, .null, .int a3, .int v102]) (by decide +kernel) rfl (1 : Int32) kc_1 (fun _ => rfl) (fun v102 ev102 => ?_)
  replace h := h v102 ev102
  refine tq_s_goto (off := -50) (tgt := 22) (by decide +kernel) (by decide +kernel) ?_
  exact hB22 _ _ h
def wc_X12_rectangle_67 (B22 : Int32 → tq_S → Prop) (Q : tq_O → tq_S → Prop) (a3 : Int32) (a4 : Int32) (s0 : Int32) (z : tq_S) : Prop := wc_X12_rectangle_68 B22 Q a3 a4 (0 : Int32) s0 z
theorem ac_X12_rectangle_67 {K : Nat × (Nat → Int32)} {x : Nat} {Q : tq_O → tq_S → Prop} {B22 : Int32 → tq_S → Prop} {a3 : Int32} {a4 : Int32} {s0 : Int32} {z : tq_S} (hB22 : ∀ (b4 : Int32) (z : tq_S), B22 b4 z → tq_T K 1 x mm_X12_rectangle 22 [.ref 51, .null, .null, .int a3, .int b4] [] z Q) (h : wc_X12_rectangle_67 B22 Q a3 a4 s0 z) : tq_T K 1 x mm_X12_rectangle 67 [.ref 51, .null, .null, .int a3, .int a4] [.int s0, .ref 52] z Q := by
  unfold wc_X12_rectangle_67 at h
  refine tq_k_ic (n := 0) (v := (0 : Int32)) (by decide +kernel) kc_0 ?_
  exact ac_X12_rectangle_68 hB22 h
def wb_X12_rectangle_22 (B22 : Int32 → tq_S → Prop) (Q : tq_O → tq_S → Prop) (a3 : Int32) (a4 : Int32) (z : tq_S) : Prop := (((64 : Int32) ≤ a4 → Q (.inl none) z) ∧ (¬ (64 : Int32) ≤ a4 → ((a3 = 0 → wc_X12_rectangle_67 B22 Q a3 a4 a4 z) ∧ (¬ a3 = 0 → (((tq_fi z 3265) ≤ (a4 - a4 / (8 : Int32) * (8 : Int32)) → wc_X12_rectangle_67 B22 Q a3 a4 a4 z) ∧ (¬ (tq_fi z 3265) ≤ (a4 - a4 / (8 : Int32) * (8 : Int32)) → (((tq_fi z 3266) ≤ (a4 / (8 : Int32)) → wc_X12_rectangle_67 B22 Q a3 a4 a4 z) ∧ (¬ (tq_fi z 3266) ≤ (a4 / (8 : Int32)) → wc_X12_rectangle_68 B22 Q a3 a4 (1 : Int32) a4 z))))))))
def wc_X12_rectangle_22 (Q : tq_O → tq_S → Prop) (a3 : Int32) (a4 : Int32) (z : tq_S) : Prop := tq_lp (σ := Int32 × tq_S) (fun B s => wb_X12_rectangle_22 (fun b4 z => B (b4, z)) Q a3 s.1 s.2) (a4, z)
theorem ab_X12_rectangle_22 {K : Nat × (Nat → Int32)} {x : Nat} {Q : tq_O → tq_S → Prop} {B22 : Int32 → tq_S → Prop} {a3 : Int32} {a4 : Int32} {z : tq_S} (hB22 : ∀ (b4 : Int32) (z : tq_S), B22 b4 z → tq_T K 1 x mm_X12_rectangle 22 [.ref 51, .null, .null, .int a3, .int b4] [] z Q) (h : wb_X12_rectangle_22 B22 Q a3 a4 z) : tq_T K 1 x mm_X12_rectangle 22 [.ref 51, .null, .null, .int a3, .int a4] [] z Q := by
  unfold wb_X12_rectangle_22 at h
  refine tq_s_iload (i := 4) (by decide +kernel) rfl ?_
  refine tq_k_bi (n := 64) (v := (64 : Int32)) (by decide +kernel) kb_64 ?_
  refine tq_icmp_ge (off := 49) (tgt := 75) (by decide +kernel) (by decide +kernel) (fun hc => ?_) (fun hc => ?_)
  · replace h := h.1 hc
    exact tq_ret_v (st := []) (by decide +kernel) rfl h
  · replace h := h.2 hc
    refine tq_s_aload_n (kk := 0) (by decide +kernel) rfl ?_
    refine fg_12_16_51 rfl (by decide +kernel) ?_
    refine tq_s_iload (i := 4) (by decide +kernel) rfl ?_
    refine tq_s_iload_n (kk := 3) (by decide +kernel) rfl ?_
    refine tq_if_eq (off := 31) (tgt := 67) (by decide +kernel) (by decide +kernel) (fun hc => ?_) (fun hc => ?_)
    · replace h := h.1 hc
      exact ac_X12_rectangle_67 hB22 h
    · replace h := h.2 hc
      refine tq_s_iload (i := 4) (by decide +kernel) rfl ?_
      refine tq_k_bi (n := 8) (v := (8 : Int32)) (by decide +kernel) kb_8 ?_
      refine tq_s_irem (by decide +kernel) (by decide +kernel) ?_
      refine tq_s_aload_n (kk := 0) (by decide +kernel) rfl ?_
      refine fg_12_7_51 rfl (by decide +kernel) ?_
      refine tq_icmp_ge (off := 19) (tgt := 67) (by decide +kernel) (by decide +kernel) (fun hc => ?_) (fun hc => ?_)
      · replace h := h.1 hc
        exact ac_X12_rectangle_67 hB22 h
      · replace h := h.2 hc
        refine tq_s_iload (i := 4) (by decide +kernel) rfl ?_
        refine tq_k_bi (n := 8) (v := (8 : Int32)) (by decide +kernel) kb_8 ?_
        refine tq_s_idiv (by decide +kernel) (by decide +kernel) ?_
        refine tq_s_aload_n (kk := 0) (by decide +kernel) rfl ?_
        refine fg_12_13_51 rfl (by decide +kernel) ?_
        refine tq_icmp_ge (off := 7) (tgt := 67) (by decide +kernel) (by decide +kernel) (fun hc => ?_) (fun hc => ?_)
        · replace h := h.1 hc
          exact ac_X12_rectangle_67 hB22 h
        · replace h := h.2 hc
          refine tq_k_ic (n := 1) (v := (1 : Int32)) (by decide +kernel) kc_1 ?_
          refine tq_s_goto (off := 4) (tgt := 68) (by decide +kernel) (by decide +kernel) ?_
          exact ac_X12_rectangle_68 hB22 h
theorem ac_X12_rectangle_22 {K : Nat × (Nat → Int32)} {x : Nat} {Q : tq_O → tq_S → Prop} {a3 : Int32} {a4 : Int32} {z : tq_S} (h : wc_X12_rectangle_22 Q a3 a4 z) : tq_T K 1 x mm_X12_rectangle 22 [.ref 51, .null, .null, .int a3, .int a4] [] z Q :=
  tq_lp_T (σ := Int32 × tq_S) (s := (a4, z)) (G := fun s => tq_T K 1 x mm_X12_rectangle 22 [.ref 51, .null, .null, .int a3, .int s.1] [] s.2 Q) (fun B hB s h => ab_X12_rectangle_22 (fun b4 z h => hB (b4, z) h) h) h
def wm_X12_rectangle (a1 : Int32) (a2 : Int32) (a3 : Int32) (z : tq_S) (Q : tq_O → tq_S → Prop) : Prop := ∀ z1 : tq_S, z1 = tq_sfi z 3265 a1 → ∀ z2 : tq_S, z2 = tq_sfi z1 3266 a2 → ∀ z3 : tq_S, z3 = tq_sfi z2 3267 (0 : Int32) → wm_X12_anew z3 (tq_wv fun z4 => wc_X12_rectangle_22 Q a3 (0 : Int32) z4)
theorem am_X12_rectangle {K : Nat × (Nat → Int32)} {x : Nat} {z : tq_S} {Q : tq_O → tq_S → Prop} {a1 : Int32} {a2 : Int32} {a3 : Int32} (h : wm_X12_rectangle a1 a2 a3 z Q) : tq_M K 1 x mm_X12_rectangle [.ref 51, .int a1, .int a2, .int a3] z Q := by
  unfold wm_X12_rectangle at h
  refine tq_enter (L := [.ref 51, .int a1, .int a2, .int a3, .null]) mf_X12_rectangle.1 rfl rfl (Nat.le_of_ble_eq_true rfl) ?_
  refine tq_s_aload_n (kk := 0) (by decide +kernel) rfl ?_
  refine tq_s_iload_n (kk := 1) (by decide +kernel) rfl ?_
  refine fp_12_7_51 rfl (by decide +kernel) (fun z1 ez1 => ?_)
  replace h := h z1 ez1
  refine tq_s_aload_n (kk := 0) (by decide +kernel) rfl ?_
  refine tq_s_iload_n (kk := 2) (by decide +kernel) rfl ?_
  refine fp_12_13_51 rfl (by decide +kernel) (fun z2 ez2 => ?_)
  replace h := h z2 ez2
  refine tq_s_aload_n (kk := 0) (by decide +kernel) rfl ?_
  refine tq_k_ic (n := 0) (v := (0 : Int32)) (by decide +kernel) kc_0 ?_
  refine fp_12_142_51 rfl (by decide +kernel) ⟨by decide +kernel, by decide +kernel⟩ (fun z3 ez3 => ?_)
  replace h := h z3 ez3
  refine tq_s_aload_n (kk := 0) (by decide +kernel) rfl ?_
  refine tq_callV (as := []) (st := []) (d1 := 0) (x1 := 0) (x2 := x) (by decide +kernel) ln_12_145 mf_X12_anew rfl sh_51 rfl (by decide) np_X12_anew rfl (Nat.le_of_ble_eq_true rfl) (by decide) (Nat.zero_add _).symm (tq_M_mono (am_X12_anew h) ?_)
  refine tq_wv_e (fun z4 h => ?_)
  refine tq_k_ic (n := 0) (v := (0 : Int32)) (by decide +kernel) kc_0 ?_
  refine tq_s_istore (i := 4) (L9 := [.ref 51, .int a1, .int a2, .int a3, .int (0 : Int32)]) (by decide +kernel) (by decide) rfl ?_
  exact tq_to (tq_lk1 (tq_ld1 (tq_ld1 (tq_lk1 (tq_lk1 tq_l0))))) (ac_X12_rectangle_22 h)
def wm_X12_isIn (a0 : Int32) (a1 : Int32) (a2 : Int32) (z : tq_S) (Q : tq_O → tq_S → Prop) : Prop := ((a0 < a1 → Q (.inl (some (.int (0 : Int32)))) z) ∧ (¬ a0 < a1 → ((a2 < a0 → Q (.inl (some (.int (0 : Int32)))) z) ∧ (¬ a2 < a0 → Q (.inl (some (.int (1 : Int32)))) z))))
theorem am_X12_isIn {K : Nat × (Nat → Int32)} {x : Nat} {z : tq_S} {Q : tq_O → tq_S → Prop} {a0 : Int32} {a1 : Int32} {a2 : Int32} (h : wm_X12_isIn a0 a1 a2 z Q) : tq_M K 0 x mm_X12_isIn [.int a0, .int a1, .int a2] z Q := by
  unfold wm_X12_isIn at h
  refine tq_enter (L := [.int a0, .int a1, .int a2]) mf_X12_isIn.1 rfl rfl (Nat.le_of_ble_eq_true rfl) ?_
  refine tq_s_iload_n (kk := 0) (by decide +kernel) rfl ?_
  refine tq_s_iload_n (kk := 1) (by decide +kernel) rfl ?_
  refine tq_icmp_lt (off := 12) (tgt := 14) (by decide +kernel) (by decide +kernel) (fun hc => ?_) (fun hc => ?_)
  · replace h := h.1 hc
    refine tq_k_ic (n := 0) (v := (0 : Int32)) (by decide +kernel) kc_0 ?_
    exact tq_ret_z (st := []) (ty := .boolean) (by decide +kernel) (by decide +kernel) rfl h
  · replace h := h.2 hc
    refine tq_s_iload_n (kk := 0) (by decide +kernel) rfl ?_
    refine tq_s_iload_n (kk := 2) (by decide +kernel) rfl ?_
    refine tq_icmp_gt (off := 7) (tgt := 14) (by decide +kernel) (by decide +kernel) (fun hc => ?_) (fun hc => ?_)
    · replace h := h.1 hc
      refine tq_k_ic (n := 0) (v := (0 : Int32)) (by decide +kernel) kc_0 ?_
      exact tq_ret_z (st := []) (ty := .boolean) (by decide +kernel) (by decide +kernel) rfl h
    · replace h := h.2 hc
      refine tq_k_ic (n := 1) (v := (1 : Int32)) (by decide +kernel) kc_1 ?_
      refine tq_s_goto (off := 4) (tgt := 15) (by decide +kernel) (by decide +kernel) ?_
      exact tq_ret_z (st := []) (ty := .boolean) (by decide +kernel) (by decide +kernel) rfl h
def wc_X12_board_26 (Q : tq_O → tq_S → Prop) (a1 : Int32) (a2 : Int32) (s0 : Int32) (z : tq_S) : Prop := wm_X12_isThrown s0 (1 : Int32) z (tq_wi fun r102 z101 => ((r102 = 0 → wm_X12_rectangle a1 a2 (1 : Int32) z101 (tq_wv fun z103 => wm_X12_many z103 (tq_wi fun r105 z104 => Q (.inl (some (.int r105))) z104))) ∧ (¬ r102 = 0 → Q (.inl (some (.int (0 : Int32)))) z101)))
theorem ac_X12_board_26 {K : Nat × (Nat → Int32)} {x : Nat} {Q : tq_O → tq_S → Prop} {a1 : Int32} {a2 : Int32} {s0 : Int32} {z : tq_S} (h : wc_X12_board_26 Q a1 a2 s0 z) : tq_T K 2 x mm_X12_board 26 [.ref 51, .int a1, .int a2] [.int s0, .ref 51] z Q := by
  unfold wc_X12_board_26 at h
  refine tq_k_ic (n := 1) (v := (1 : Int32)) (by decide +kernel) kc_1 ?_
  refine tq_callV (as := [.int s0, .int (1 : Int32)]) (st := []) (d1 := 0) (x1 := 0) (x2 := x) (by decide +kernel) ln_12_152 mf_X12_isThrown rfl sh_51 rfl (by decide) np_X12_isThrown rfl (Nat.le_of_ble_eq_true rfl) (by decide) (Nat.zero_add _).symm (tq_M_mono (am_X12_isThrown h) ?_)
  refine tq_wi_e (fun r102 z101 h => ?_)
  refine tq_if_eq (off := 5) (tgt := 35) (by decide +kernel) (by decide +kernel) (fun hc => ?_) (fun hc => ?_)
  · replace h := h.1 hc
    refine tq_s_aload_n (kk := 0) (by decide +kernel) rfl ?_
    refine tq_s_iload_n (kk := 1) (by decide +kernel) rfl ?_
    refine tq_s_iload_n (kk := 2) (by decide +kernel) rfl ?_
    refine tq_k_ic (n := 1) (v := (1 : Int32)) (by decide +kernel) kc_1 ?_
    refine tq_callV (as := [.int a1, .int a2, .int (1 : Int32)]) (st := []) (d1 := 1) (x1 := 0) (x2 := x) (by decide +kernel) ln_12_156 mf_X12_rectangle rfl sh_51 rfl (by decide) np_X12_rectangle rfl (Nat.le_of_ble_eq_true rfl) (by decide) (Nat.zero_add _).symm (tq_M_mono (am_X12_rectangle h) ?_)
    refine tq_wv_e (fun z103 h => ?_)
    refine tq_s_aload_n (kk := 0) (by decide +kernel) rfl ?_
    refine tq_callV (as := []) (st := []) (d1 := 0) (x1 := 0) (x2 := x) (by decide +kernel) ln_12_160 mf_X12_many rfl sh_51 rfl (by decide) np_X12_many rfl (Nat.le_of_ble_eq_true rfl) (by decide) (Nat.zero_add _).symm (tq_M_mono (am_X12_many h) ?_)
    refine tq_wi_e (fun r105 z104 h => ?_)
    exact tq_ret_i (st := []) (by decide +kernel) rfl h
  · replace h := h.2 hc
    refine tq_k_ic (n := 0) (v := (0 : Int32)) (by decide +kernel) kc_0 ?_
    exact tq_ret_i (st := []) (by decide +kernel) rfl h
def wc_X12_board_21 (Q : tq_O → tq_S → Prop) (a1 : Int32) (a2 : Int32) (z : tq_S) : Prop := wc_X12_board_26 Q a1 a2 (1 : Int32) z
theorem ac_X12_board_21 {K : Nat × (Nat → Int32)} {x : Nat} {Q : tq_O → tq_S → Prop} {a1 : Int32} {a2 : Int32} {z : tq_S} (h : wc_X12_board_21 Q a1 a2 z) : tq_T K 2 x mm_X12_board 21 [.ref 51, .int a1, .int a2] [.ref 51] z Q := by
  unfold wc_X12_board_21 at h
  refine tq_k_ic (n := 1) (v := (1 : Int32)) (by decide +kernel) kc_1 ?_
  refine tq_s_goto (off := 4) (tgt := 26) (by decide +kernel) (by decide +kernel) ?_
  exact ac_X12_board_26 h
def wm_X12_board (a1 : Int32) (a2 : Int32) (z : tq_S) (Q : tq_O → tq_S → Prop) : Prop := wm_X12_isIn a1 (1 : Int32) (8 : Int32) z (tq_wi fun r2 z1 => ((r2 = 0 → wc_X12_board_21 Q a1 a2 z1) ∧ (¬ r2 = 0 → wm_X12_isIn a2 (1 : Int32) (8 : Int32) z1 (tq_wi fun r4 z3 => ((¬ r4 = 0 → wc_X12_board_26 Q a1 a2 (0 : Int32) z3) ∧ (r4 = 0 → wc_X12_board_21 Q a1 a2 z3))))))
theorem am_X12_board {K : Nat × (Nat → Int32)} {x : Nat} {z : tq_S} {Q : tq_O → tq_S → Prop} {a1 : Int32} {a2 : Int32} (h : wm_X12_board a1 a2 z Q) : tq_M K 2 x mm_X12_board [.ref 51, .int a1, .int a2] z Q := by
  unfold wm_X12_board at h
  refine tq_enter (L := [.ref 51, .int a1, .int a2]) mf_X12_board.1 rfl rfl (Nat.le_of_ble_eq_true rfl) ?_
  refine tq_s_aload_n (kk := 0) (by decide +kernel) rfl ?_
  refine tq_s_iload_n (kk := 1) (by decide +kernel) rfl ?_
  refine tq_k_ic (n := 1) (v := (1 : Int32)) (by decide +kernel) kc_1 ?_
  refine tq_k_bi (n := 8) (v := (8 : Int32)) (by decide +kernel) kb_8 ?_
  refine tq_callS (as := [.int a1, .int (1 : Int32), .int (8 : Int32)]) (st := [.ref 51]) (d1 := 0) (x1 := 0) (x2 := x) (by decide +kernel) ln_12_148 mf_X12_isIn rfl (by decide) np_X12_isIn rfl (Nat.le_of_ble_eq_true rfl) (by decide) (Nat.zero_add _).symm (tq_M_mono (am_X12_isIn h) ?_)
  refine tq_wi_e (fun r2 z1 h => ?_)
  refine tq_if_eq (off := 13) (tgt := 21) (by decide +kernel) (by decide +kernel) (fun hc => ?_) (fun hc => ?_)
  · replace h := h.1 hc
    exact ac_X12_board_21 h
  · replace h := h.2 hc
    refine tq_s_iload_n (kk := 2) (by decide +kernel) rfl ?_
    refine tq_k_ic (n := 1) (v := (1 : Int32)) (by decide +kernel) kc_1 ?_
    refine tq_k_bi (n := 8) (v := (8 : Int32)) (by decide +kernel) kb_8 ?_
    refine tq_callS (as := [.int a2, .int (1 : Int32), .int (8 : Int32)]) (st := [.ref 51]) (d1 := 0) (x1 := 0) (x2 := x) (by decide +kernel) ln_12_148 mf_X12_isIn rfl (by decide) np_X12_isIn rfl (Nat.le_of_ble_eq_true rfl) (by decide) (Nat.zero_add _).symm (tq_M_mono (am_X12_isIn h) ?_)
    refine tq_wi_e (fun r4 z3 h => ?_)
    refine tq_if_ne (off := 7) (tgt := 25) (by decide +kernel) (by decide +kernel) (fun hc => ?_) (fun hc => ?_)
    · replace h := h.1 hc
      refine tq_k_ic (n := 0) (v := (0 : Int32)) (by decide +kernel) kc_0 ?_
      exact ac_X12_board_26 h
    · replace h := h.2 hc
      exact ac_X12_board_21 h
def wc_X12_form_280 (B115 : Int32 → tq_S → Prop) (B125 : Int32 → tq_S → Prop) (Q : tq_O → tq_S → Prop) (a1 : Int32) (a2 : Int32) (a4 : Int32) (a5 : Int32) (a6 : Int32) (s0 : Int32) (s1 : Int32) (z : tq_S) : Prop := vp_in s1 64 ∧ ∀ z101 : tq_S, z101 = tq_sai z 52 (upd (tq_ai z 52) (Int32.toNatClampNeg s1) (vp_nar .boolean s0)) → ∀ v102 : Int32, v102 = a6 + (1 : Int32) → B125 v102 z101
theorem ac_X12_form_280 {K : Nat × (Nat → Int32)} {x : Nat} {Q : tq_O → tq_S → Prop} {B115 : Int32 → tq_S → Prop} {B125 : Int32 → tq_S → Prop} {a1 : Int32} {a2 : Int32} {a4 : Int32} {a5 : Int32} {a6 : Int32} {s0 : Int32} {s1 : Int32} {z : tq_S} (hB115 : ∀ (b5 : Int32) (z : tq_S), B115 b5 z → tq_T K 2 x mm_X12_form 115 [.ref 51, .int a1, .int a2, .null, .int a4, .int b5, .null, .null, .null] [] z Q) (hB125 : ∀ (b6 : Int32) (z : tq_S), B125 b6 z → tq_T K 2 x mm_X12_form 125 [.ref 51, .int a1, .int a2, .null, .int a4, .int a5, .int b6, .null, .null] [] z Q) (h : wc_X12_form_280 B115 B125 Q a1 a2 a4 a5 a6 s0 s1 z) : tq_T K 2 x mm_X12_form 280 [.ref 51, .int a1, .int a2, .null, .int a4, .int a5, .int a6, .null, .null] [.int s0, .int s1, .ref 52] z Q := by
  unfold wc_X12_form_280 at h
  refine tq_g_zast (by decide +kernel) sh_52 h.1 (fun z101 ez101 => ?_)
  replace h := h.2 z101 ez101
  refine tq_g_iinc (i := 6) (fun v102 => [.ref 51, .int a1, .int a2, .null, .int a4, .int a5, .int v102, .null, .null]) (by decide +kernel) rfl (1 : Int32) kc_1 (fun _ => rfl) (fun v102 ev102 => ?_)
  replace h := h v102 ev102
  refine tq_s_goto (off := -159) (tgt := 125) (by decide +kernel) (by decide +kernel) ?_
  exact hB125 _ _ h
def wc_X12_form_256 (B115 : Int32 → tq_S → Prop) (B125 : Int32 → tq_S → Prop) (Q : tq_O → tq_S → Prop) (a1 : Int32) (a2 : Int32) (a4 : Int32) (a5 : Int32) (a6 : Int32) (s0 : Int32) (z : tq_S) : Prop := ((¬ s0 = 0 → wc_X12_form_280 B115 B125 Q a1 a2 a4 a5 a6 (0 : Int32) (((8 : Int32) * a5) + a6) z) ∧ (s0 = 0 → wc_X12_form_280 B115 B125 Q a1 a2 a4 a5 a6 (1 : Int32) (((8 : Int32) * a5) + a6) z))
theorem ac_X12_form_256 {K : Nat × (Nat → Int32)} {x : Nat} {Q : tq_O → tq_S → Prop} {B115 : Int32 → tq_S → Prop} {B125 : Int32 → tq_S → Prop} {a1 : Int32} {a2 : Int32} {a4 : Int32} {a5 : Int32} {a6 : Int32} {s0 : Int32} {z : tq_S} (hB115 : ∀ (b5 : Int32) (z : tq_S), B115 b5 z → tq_T K 2 x mm_X12_form 115 [.ref 51, .int a1, .int a2, .null, .int a4, .int b5, .null, .null, .null] [] z Q) (hB125 : ∀ (b6 : Int32) (z : tq_S), B125 b6 z → tq_T K 2 x mm_X12_form 125 [.ref 51, .int a1, .int a2, .null, .int a4, .int a5, .int b6, .null, .null] [] z Q) (h : wc_X12_form_256 B115 B125 Q a1 a2 a4 a5 a6 s0 z) : tq_T K 2 x mm_X12_form 256 [.ref 51, .int a1, .int a2, .null, .int a4, .int a5, .int a6, .null, .null] [.int s0] z Q := by
  unfold wc_X12_form_256 at h
  refine tq_s_istore (i := 8) (L9 := [.ref 51, .int a1, .int a2, .null, .int a4, .int a5, .int a6, .null, .int s0]) (by decide +kernel) (by decide) rfl ?_
  refine tq_s_aload_n (kk := 0) (by decide +kernel) rfl ?_
  refine fg_12_16_51 rfl (by decide +kernel) ?_
  refine tq_k_bi (n := 8) (v := (8 : Int32)) (by decide +kernel) kb_8 ?_
  refine tq_s_iload (i := 5) (by decide +kernel) rfl ?_
  refine tq_s_imul (by decide +kernel) ?_
  refine tq_s_iload (i := 6) (by decide +kernel) rfl ?_
  refine tq_s_iadd (by decide +kernel) ?_
  refine tq_s_iload (i := 8) (by decide +kernel) rfl ?_
  refine tq_if_ne (off := 7) (tgt := 279) (by decide +kernel) (by decide +kernel) (fun hc => ?_) (fun hc => ?_)
  · replace h := h.1 hc
    refine tq_k_ic (n := 0) (v := (0 : Int32)) (by decide +kernel) kc_0 ?_
    exact tq_to (tq_lk1 (tq_lk1 (tq_lk1 (tq_lk1 (tq_lk1 (tq_lk1 (tq_lk1 (tq_lk1 (tq_ld1 tq_l0))))))))) (ac_X12_form_280 hB115 hB125 h)
  · replace h := h.2 hc
    refine tq_k_ic (n := 1) (v := (1 : Int32)) (by decide +kernel) kc_1 ?_
    refine tq_s_goto (off := 4) (tgt := 280) (by decide +kernel) (by decide +kernel) ?_
    exact tq_to (tq_lk1 (tq_lk1 (tq_lk1 (tq_lk1 (tq_lk1 (tq_lk1 (tq_lk1 (tq_lk1 (tq_ld1 tq_l0))))))))) (ac_X12_form_280 hB115 hB125 h)
def wc_X12_form_251 (B115 : Int32 → tq_S → Prop) (B125 : Int32 → tq_S → Prop) (Q : tq_O → tq_S → Prop) (a1 : Int32) (a2 : Int32) (a4 : Int32) (a5 : Int32) (a6 : Int32) (z : tq_S) : Prop := wc_X12_form_256 B115 B125 Q a1 a2 a4 a5 a6 (1 : Int32) z
theorem ac_X12_form_251 {K : Nat × (Nat → Int32)} {x : Nat} {Q : tq_O → tq_S → Prop} {B115 : Int32 → tq_S → Prop} {B125 : Int32 → tq_S → Prop} {a1 : Int32} {a2 : Int32} {a4 : Int32} {a5 : Int32} {a6 : Int32} {z : tq_S} (hB115 : ∀ (b5 : Int32) (z : tq_S), B115 b5 z → tq_T K 2 x mm_X12_form 115 [.ref 51, .int a1, .int a2, .null, .int a4, .int b5, .null, .null, .null] [] z Q) (hB125 : ∀ (b6 : Int32) (z : tq_S), B125 b6 z → tq_T K 2 x mm_X12_form 125 [.ref 51, .int a1, .int a2, .null, .int a4, .int a5, .int b6, .null, .null] [] z Q) (h : wc_X12_form_251 B115 B125 Q a1 a2 a4 a5 a6 z) : tq_T K 2 x mm_X12_form 251 [.ref 51, .int a1, .int a2, .null, .int a4, .int a5, .int a6, .null, .null] [] z Q := by
  unfold wc_X12_form_251 at h
  refine tq_k_ic (n := 1) (v := (1 : Int32)) (by decide +kernel) kc_1 ?_
  refine tq_s_goto (off := 4) (tgt := 256) (by decide +kernel) (by decide +kernel) ?_
  exact ac_X12_form_256 hB115 hB125 h
def wc_X12_form_255 (B115 : Int32 → tq_S → Prop) (B125 : Int32 → tq_S → Prop) (Q : tq_O → tq_S → Prop) (a1 : Int32) (a2 : Int32) (a4 : Int32) (a5 : Int32) (a6 : Int32) (z : tq_S) : Prop := wc_X12_form_256 B115 B125 Q a1 a2 a4 a5 a6 (0 : Int32) z
theorem ac_X12_form_255 {K : Nat × (Nat → Int32)} {x : Nat} {Q : tq_O → tq_S → Prop} {B115 : Int32 → tq_S → Prop} {B125 : Int32 → tq_S → Prop} {a1 : Int32} {a2 : Int32} {a4 : Int32} {a5 : Int32} {a6 : Int32} {z : tq_S} (hB115 : ∀ (b5 : Int32) (z : tq_S), B115 b5 z → tq_T K 2 x mm_X12_form 115 [.ref 51, .int a1, .int a2, .null, .int a4, .int b5, .null, .null, .null] [] z Q) (hB125 : ∀ (b6 : Int32) (z : tq_S), B125 b6 z → tq_T K 2 x mm_X12_form 125 [.ref 51, .int a1, .int a2, .null, .int a4, .int a5, .int b6, .null, .null] [] z Q) (h : wc_X12_form_255 B115 B125 Q a1 a2 a4 a5 a6 z) : tq_T K 2 x mm_X12_form 255 [.ref 51, .int a1, .int a2, .null, .int a4, .int a5, .int a6, .null, .null] [] z Q := by
  unfold wc_X12_form_255 at h
  refine tq_k_ic (n := 0) (v := (0 : Int32)) (by decide +kernel) kc_0 ?_
  exact ac_X12_form_256 hB115 hB125 h
def wc_X12_form_223 (B115 : Int32 → tq_S → Prop) (B125 : Int32 → tq_S → Prop) (Q : tq_O → tq_S → Prop) (a1 : Int32) (a2 : Int32) (a4 : Int32) (a5 : Int32) (a6 : Int32) (z : tq_S) : Prop := ((¬ a1 = (99 : Int32) → wc_X12_form_255 B115 B125 Q a1 a2 a4 a5 a6 z) ∧ (a1 = (99 : Int32) → (((a6 + a5) = 0 → wc_X12_form_251 B115 B125 Q a1 a2 a4 a5 a6 z) ∧ (¬ (a6 + a5) = 0 → ((¬ (a6 + a5) = (((2 : Int32) * a4) - (2 : Int32)) → wc_X12_form_255 B115 B125 Q a1 a2 a4 a5 a6 z) ∧ ((a6 + a5) = (((2 : Int32) * a4) - (2 : Int32)) → wc_X12_form_251 B115 B125 Q a1 a2 a4 a5 a6 z))))))
theorem ac_X12_form_223 {K : Nat × (Nat → Int32)} {x : Nat} {Q : tq_O → tq_S → Prop} {B115 : Int32 → tq_S → Prop} {B125 : Int32 → tq_S → Prop} {a1 : Int32} {a2 : Int32} {a4 : Int32} {a5 : Int32} {a6 : Int32} {z : tq_S} (hB115 : ∀ (b5 : Int32) (z : tq_S), B115 b5 z → tq_T K 2 x mm_X12_form 115 [.ref 51, .int a1, .int a2, .null, .int a4, .int b5, .null, .null, .null] [] z Q) (hB125 : ∀ (b6 : Int32) (z : tq_S), B125 b6 z → tq_T K 2 x mm_X12_form 125 [.ref 51, .int a1, .int a2, .null, .int a4, .int a5, .int b6, .null, .null] [] z Q) (h : wc_X12_form_223 B115 B125 Q a1 a2 a4 a5 a6 z) : tq_T K 2 x mm_X12_form 223 [.ref 51, .int a1, .int a2, .null, .int a4, .int a5, .int a6, .null, .null] [] z Q := by
  unfold wc_X12_form_223 at h
  refine tq_s_iload_n (kk := 1) (by decide +kernel) rfl ?_
  refine tq_k_bi (n := 99) (v := (99 : Int32)) (by decide +kernel) kb_99 ?_
  refine tq_icmp_ne (off := 29) (tgt := 255) (by decide +kernel) (by decide +kernel) (fun hc => ?_) (fun hc => ?_)
  · replace h := h.1 hc
    exact ac_X12_form_255 hB115 hB125 h
  · replace h := h.2 hc
    refine tq_s_iload (i := 6) (by decide +kernel) rfl ?_
    refine tq_s_iload (i := 5) (by decide +kernel) rfl ?_
    refine tq_s_iadd (by decide +kernel) ?_
    refine tq_if_eq (off := 17) (tgt := 251) (by decide +kernel) (by decide +kernel) (fun hc => ?_) (fun hc => ?_)
    · replace h := h.1 hc
      exact ac_X12_form_251 hB115 hB125 h
    · replace h := h.2 hc
      refine tq_s_iload (i := 6) (by decide +kernel) rfl ?_
      refine tq_s_iload (i := 5) (by decide +kernel) rfl ?_
      refine tq_s_iadd (by decide +kernel) ?_
      refine tq_k_ic (n := 2) (v := (2 : Int32)) (by decide +kernel) kc_2 ?_
      refine tq_s_iload (i := 4) (by decide +kernel) rfl ?_
      refine tq_s_imul (by decide +kernel) ?_
      refine tq_k_ic (n := 2) (v := (2 : Int32)) (by decide +kernel) kc_2 ?_
      refine tq_s_isub (by decide +kernel) ?_
      refine tq_icmp_ne (off := 7) (tgt := 255) (by decide +kernel) (by decide +kernel) (fun hc => ?_) (fun hc => ?_)
      · replace h := h.1 hc
        exact ac_X12_form_255 hB115 hB125 h
      · replace h := h.2 hc
        exact ac_X12_form_251 hB115 hB125 h
def wc_X12_form_189 (B115 : Int32 → tq_S → Prop) (B125 : Int32 → tq_S → Prop) (Q : tq_O → tq_S → Prop) (a1 : Int32) (a2 : Int32) (a4 : Int32) (a5 : Int32) (a6 : Int32) (z : tq_S) : Prop := ((¬ a1 = (111 : Int32) → wc_X12_form_223 B115 B125 Q a1 a2 a4 a5 a6 z) ∧ (a1 = (111 : Int32) → ((a6 ≤ 0 → wc_X12_form_223 B115 B125 Q a1 a2 a4 a5 a6 z) ∧ (¬ a6 ≤ 0 → (((a4 - (1 : Int32)) ≤ a6 → wc_X12_form_223 B115 B125 Q a1 a2 a4 a5 a6 z) ∧ (¬ (a4 - (1 : Int32)) ≤ a6 → ((a5 ≤ 0 → wc_X12_form_223 B115 B125 Q a1 a2 a4 a5 a6 z) ∧ (¬ a5 ≤ 0 → ((a5 < (a4 - (1 : Int32)) → wc_X12_form_251 B115 B125 Q a1 a2 a4 a5 a6 z) ∧ (¬ a5 < (a4 - (1 : Int32)) → wc_X12_form_223 B115 B125 Q a1 a2 a4 a5 a6 z))))))))))
theorem ac_X12_form_189 {K : Nat × (Nat → Int32)} {x : Nat} {Q : tq_O → tq_S → Prop} {B115 : Int32 → tq_S → Prop} {B125 : Int32 → tq_S → Prop} {a1 : Int32} {a2 : Int32} {a4 : Int32} {a5 : Int32} {a6 : Int32} {z : tq_S} (hB115 : ∀ (b5 : Int32) (z : tq_S), B115 b5 z → tq_T K 2 x mm_X12_form 115 [.ref 51, .int a1, .int a2, .null, .int a4, .int b5, .null, .null, .null] [] z Q) (hB125 : ∀ (b6 : Int32) (z : tq_S), B125 b6 z → tq_T K 2 x mm_X12_form 125 [.ref 51, .int a1, .int a2, .null, .int a4, .int a5, .int b6, .null, .null] [] z Q) (h : wc_X12_form_189 B115 B125 Q a1 a2 a4 a5 a6 z) : tq_T K 2 x mm_X12_form 189 [.ref 51, .int a1, .int a2, .null, .int a4, .int a5, .int a6, .null, .null] [] z Q := by
  unfold wc_X12_form_189 at h
  refine tq_s_iload_n (kk := 1) (by decide +kernel) rfl ?_
  refine tq_k_bi (n := 111) (v := (111 : Int32)) (by decide +kernel) kb_111 ?_
  refine tq_icmp_ne (off := 31) (tgt := 223) (by decide +kernel) (by decide +kernel) (fun hc => ?_) (fun hc => ?_)
  · replace h := h.1 hc
    exact ac_X12_form_223 hB115 hB125 h
  · replace h := h.2 hc
    refine tq_s_iload (i := 6) (by decide +kernel) rfl ?_
    refine tq_if_le (off := 26) (tgt := 223) (by decide +kernel) (by decide +kernel) (fun hc => ?_) (fun hc => ?_)
    · replace h := h.1 hc
      exact ac_X12_form_223 hB115 hB125 h
    · replace h := h.2 hc
      refine tq_s_iload (i := 6) (by decide +kernel) rfl ?_
      refine tq_s_iload (i := 4) (by decide +kernel) rfl ?_
      refine tq_k_ic (n := 1) (v := (1 : Int32)) (by decide +kernel) kc_1 ?_
      refine tq_s_isub (by decide +kernel) ?_
      refine tq_icmp_ge (off := 17) (tgt := 223) (by decide +kernel) (by decide +kernel) (fun hc => ?_) (fun hc => ?_)
      · replace h := h.1 hc
        exact ac_X12_form_223 hB115 hB125 h
      · replace h := h.2 hc
        refine tq_s_iload (i := 5) (by decide +kernel) rfl ?_
        refine tq_if_le (off := 12) (tgt := 223) (by decide +kernel) (by decide +kernel) (fun hc => ?_) (fun hc => ?_)
        · replace h := h.1 hc
          exact ac_X12_form_223 hB115 hB125 h
        · replace h := h.2 hc
          refine tq_s_iload (i := 5) (by decide +kernel) rfl ?_
          refine tq_s_iload (i := 4) (by decide +kernel) rfl ?_
          refine tq_k_ic (n := 1) (v := (1 : Int32)) (by decide +kernel) kc_1 ?_
          refine tq_s_isub (by decide +kernel) ?_
          refine tq_icmp_lt (off := 31) (tgt := 251) (by decide +kernel) (by decide +kernel) (fun hc => ?_) (fun hc => ?_)
          · replace h := h.1 hc
            exact ac_X12_form_251 hB115 hB125 h
          · replace h := h.2 hc
            exact ac_X12_form_223 hB115 hB125 h
def wc_X12_form_176 (B115 : Int32 → tq_S → Prop) (B125 : Int32 → tq_S → Prop) (Q : tq_O → tq_S → Prop) (a1 : Int32) (a2 : Int32) (a4 : Int32) (a5 : Int32) (a6 : Int32) (z : tq_S) : Prop := ((¬ a1 = (115 : Int32) → wc_X12_form_189 B115 B125 Q a1 a2 a4 a5 a6 z) ∧ (a1 = (115 : Int32) → ((a5 < a6 → wc_X12_form_251 B115 B125 Q a1 a2 a4 a5 a6 z) ∧ (¬ a5 < a6 → wc_X12_form_189 B115 B125 Q a1 a2 a4 a5 a6 z))))
theorem ac_X12_form_176 {K : Nat × (Nat → Int32)} {x : Nat} {Q : tq_O → tq_S → Prop} {B115 : Int32 → tq_S → Prop} {B125 : Int32 → tq_S → Prop} {a1 : Int32} {a2 : Int32} {a4 : Int32} {a5 : Int32} {a6 : Int32} {z : tq_S} (hB115 : ∀ (b5 : Int32) (z : tq_S), B115 b5 z → tq_T K 2 x mm_X12_form 115 [.ref 51, .int a1, .int a2, .null, .int a4, .int b5, .null, .null, .null] [] z Q) (hB125 : ∀ (b6 : Int32) (z : tq_S), B125 b6 z → tq_T K 2 x mm_X12_form 125 [.ref 51, .int a1, .int a2, .null, .int a4, .int a5, .int b6, .null, .null] [] z Q) (h : wc_X12_form_176 B115 B125 Q a1 a2 a4 a5 a6 z) : tq_T K 2 x mm_X12_form 176 [.ref 51, .int a1, .int a2, .null, .int a4, .int a5, .int a6, .null, .null] [] z Q := by
  unfold wc_X12_form_176 at h
  refine tq_s_iload_n (kk := 1) (by decide +kernel) rfl ?_
  refine tq_k_bi (n := 115) (v := (115 : Int32)) (by decide +kernel) kb_115 ?_
  refine tq_icmp_ne (off := 10) (tgt := 189) (by decide +kernel) (by decide +kernel) (fun hc => ?_) (fun hc => ?_)
  · replace h := h.1 hc
    exact ac_X12_form_189 hB115 hB125 h
  · replace h := h.2 hc
    refine tq_s_iload (i := 6) (by decide +kernel) rfl ?_
    refine tq_s_iload (i := 5) (by decide +kernel) rfl ?_
    refine tq_icmp_gt (off := 65) (tgt := 251) (by decide +kernel) (by decide +kernel) (fun hc => ?_) (fun hc => ?_)
    · replace h := h.1 hc
      exact ac_X12_form_251 hB115 hB125 h
    · replace h := h.2 hc
      exact ac_X12_form_189 hB115 hB125 h
def wc_X12_form_151 (B115 : Int32 → tq_S → Prop) (B125 : Int32 → tq_S → Prop) (Q : tq_O → tq_S → Prop) (a1 : Int32) (a2 : Int32) (a4 : Int32) (a5 : Int32) (a6 : Int32) (s0 : Int32) (z : tq_S) : Prop := ((¬ a1 = (97 : Int32) → wc_X12_form_176 B115 B125 Q a1 a2 a4 a5 a6 z) ∧ (a1 = (97 : Int32) → ((a6 < s0 → wc_X12_form_251 B115 B125 Q a1 a2 a4 a5 a6 z) ∧ (¬ a6 < s0 → (((a4 - s0) ≤ a6 → wc_X12_form_251 B115 B125 Q a1 a2 a4 a5 a6 z) ∧ (¬ (a4 - s0) ≤ a6 → wc_X12_form_176 B115 B125 Q a1 a2 a4 a5 a6 z))))))
theorem ac_X12_form_151 {K : Nat × (Nat → Int32)} {x : Nat} {Q : tq_O → tq_S → Prop} {B115 : Int32 → tq_S → Prop} {B125 : Int32 → tq_S → Prop} {a1 : Int32} {a2 : Int32} {a4 : Int32} {a5 : Int32} {a6 : Int32} {s0 : Int32} {z : tq_S} (hB115 : ∀ (b5 : Int32) (z : tq_S), B115 b5 z → tq_T K 2 x mm_X12_form 115 [.ref 51, .int a1, .int a2, .null, .int a4, .int b5, .null, .null, .null] [] z Q) (hB125 : ∀ (b6 : Int32) (z : tq_S), B125 b6 z → tq_T K 2 x mm_X12_form 125 [.ref 51, .int a1, .int a2, .null, .int a4, .int a5, .int b6, .null, .null] [] z Q) (h : wc_X12_form_151 B115 B125 Q a1 a2 a4 a5 a6 s0 z) : tq_T K 2 x mm_X12_form 151 [.ref 51, .int a1, .int a2, .null, .int a4, .int a5, .int a6, .null, .null] [.int s0] z Q := by
  unfold wc_X12_form_151 at h
  refine tq_s_istore (i := 7) (L9 := [.ref 51, .int a1, .int a2, .null, .int a4, .int a5, .int a6, .int s0, .null]) (by decide +kernel) (by decide) rfl ?_
  refine tq_s_iload_n (kk := 1) (by decide +kernel) rfl ?_
  refine tq_k_bi (n := 97) (v := (97 : Int32)) (by decide +kernel) kb_97 ?_
  refine tq_icmp_ne (off := 20) (tgt := 176) (by decide +kernel) (by decide +kernel) (fun hc => ?_) (fun hc => ?_)
  · replace h := h.1 hc
    exact tq_to (tq_lk1 (tq_lk1 (tq_lk1 (tq_lk1 (tq_lk1 (tq_lk1 (tq_lk1 (tq_ld1 (tq_lk1 tq_l0))))))))) (ac_X12_form_176 hB115 hB125 h)
  · replace h := h.2 hc
    refine tq_s_iload (i := 6) (by decide +kernel) rfl ?_
    refine tq_s_iload (i := 7) (by decide +kernel) rfl ?_
    refine tq_icmp_lt (off := 88) (tgt := 251) (by decide +kernel) (by decide +kernel) (fun hc => ?_) (fun hc => ?_)
    · replace h := h.1 hc
      exact tq_to (tq_lk1 (tq_lk1 (tq_lk1 (tq_lk1 (tq_lk1 (tq_lk1 (tq_lk1 (tq_ld1 (tq_lk1 tq_l0))))))))) (ac_X12_form_251 hB115 hB125 h)
    · replace h := h.2 hc
      refine tq_s_iload (i := 6) (by decide +kernel) rfl ?_
      refine tq_s_iload (i := 4) (by decide +kernel) rfl ?_
      refine tq_s_iload (i := 7) (by decide +kernel) rfl ?_
      refine tq_s_isub (by decide +kernel) ?_
      refine tq_icmp_ge (off := 78) (tgt := 251) (by decide +kernel) (by decide +kernel) (fun hc => ?_) (fun hc => ?_)
      · replace h := h.1 hc
        exact tq_to (tq_lk1 (tq_lk1 (tq_lk1 (tq_lk1 (tq_lk1 (tq_lk1 (tq_lk1 (tq_ld1 (tq_lk1 tq_l0))))))))) (ac_X12_form_251 hB115 hB125 h)
      · replace h := h.2 hc
        exact tq_to (tq_lk1 (tq_lk1 (tq_lk1 (tq_lk1 (tq_lk1 (tq_lk1 (tq_lk1 (tq_ld1 (tq_lk1 tq_l0))))))))) (ac_X12_form_176 hB115 hB125 h)
def wc_X12_form_287 (B115 : Int32 → tq_S → Prop) (Q : tq_O → tq_S → Prop) (a1 : Int32) (a2 : Int32) (a4 : Int32) (a5 : Int32) (z : tq_S) : Prop := ∀ v101 : Int32, v101 = a5 + (1 : Int32) → B115 v101 z
theorem ac_X12_form_287 {K : Nat × (Nat → Int32)} {x : Nat} {Q : tq_O → tq_S → Prop} {B115 : Int32 → tq_S → Prop} {a1 : Int32} {a2 : Int32} {a4 : Int32} {a5 : Int32} {z : tq_S} (hB115 : ∀ (b5 : Int32) (z : tq_S), B115 b5 z → tq_T K 2 x mm_X12_form 115 [.ref 51, .int a1, .int a2, .null, .int a4, .int b5, .null, .null, .null] [] z Q) (h : wc_X12_form_287 B115 Q a1 a2 a4 a5 z) : tq_T K 2 x mm_X12_form 287 [.ref 51, .int a1, .int a2, .null, .int a4, .int a5, .null, .null, .null] [] z Q := by
  unfold wc_X12_form_287 at h
  refine tq_g_iinc (i := 5) (fun v101 => [.ref 51, .int a1, .int a2, .null, .int a4, .int v101, .null, .null, .null]) (by decide +kernel) rfl (1 : Int32) kc_1 (fun _ => rfl) (fun v101 ev101 => ?_)
  replace h := h v101 ev101
  refine tq_s_goto (off := -175) (tgt := 115) (by decide +kernel) (by decide +kernel) ?_
  exact hB115 _ _ h
def wb_X12_form_125 (B115 : Int32 → tq_S → Prop) (B125 : Int32 → tq_S → Prop) (Q : tq_O → tq_S → Prop) (a1 : Int32) (a2 : Int32) (a4 : Int32) (a5 : Int32) (a6 : Int32) (z : tq_S) : Prop := ((a4 ≤ a6 → wc_X12_form_287 B115 Q a1 a2 a4 a5 z) ∧ (¬ a4 ≤ a6 → ((a2 ≤ a5 → wc_X12_form_151 B115 B125 Q a1 a2 a4 a5 a6 (a5 - a2) z) ∧ (¬ a2 ≤ a5 → wc_X12_form_151 B115 B125 Q a1 a2 a4 a5 a6 ((a2 - (1 : Int32)) - a5) z))))
def wc_X12_form_125 (B115 : Int32 → tq_S → Prop) (Q : tq_O → tq_S → Prop) (a1 : Int32) (a2 : Int32) (a4 : Int32) (a5 : Int32) (a6 : Int32) (z : tq_S) : Prop := tq_lp (σ := Int32 × tq_S) (fun B s => wb_X12_form_125 B115 (fun b6 z => B (b6, z)) Q a1 a2 a4 a5 s.1 s.2) (a6, z)
theorem ab_X12_form_125 {K : Nat × (Nat → Int32)} {x : Nat} {Q : tq_O → tq_S → Prop} {B115 : Int32 → tq_S → Prop} {B125 : Int32 → tq_S → Prop} {a1 : Int32} {a2 : Int32} {a4 : Int32} {a5 : Int32} {a6 : Int32} {z : tq_S} (hB115 : ∀ (b5 : Int32) (z : tq_S), B115 b5 z → tq_T K 2 x mm_X12_form 115 [.ref 51, .int a1, .int a2, .null, .int a4, .int b5, .null, .null, .null] [] z Q) (hB125 : ∀ (b6 : Int32) (z : tq_S), B125 b6 z → tq_T K 2 x mm_X12_form 125 [.ref 51, .int a1, .int a2, .null, .int a4, .int a5, .int b6, .null, .null] [] z Q) (h : wb_X12_form_125 B115 B125 Q a1 a2 a4 a5 a6 z) : tq_T K 2 x mm_X12_form 125 [.ref 51, .int a1, .int a2, .null, .int a4, .int a5, .int a6, .null, .null] [] z Q := by
  unfold wb_X12_form_125 at h
  refine tq_s_iload (i := 6) (by decide +kernel) rfl ?_
  refine tq_s_iload (i := 4) (by decide +kernel) rfl ?_
  refine tq_icmp_ge (off := 158) (tgt := 287) (by decide +kernel) (by decide +kernel) (fun hc => ?_) (fun hc => ?_)
  · replace h := h.1 hc
    exact tq_to (tq_lk1 (tq_lk1 (tq_lk1 (tq_lk1 (tq_lk1 (tq_lk1 (tq_ld1 (tq_lk1 (tq_lk1 tq_l0))))))))) (ac_X12_form_287 hB115 h)
  · replace h := h.2 hc
    refine tq_s_iload (i := 5) (by decide +kernel) rfl ?_
    refine tq_s_iload_n (kk := 2) (by decide +kernel) rfl ?_
    refine tq_icmp_ge (off := 12) (tgt := 147) (by decide +kernel) (by decide +kernel) (fun hc => ?_) (fun hc => ?_)
    · replace h := h.1 hc
      refine tq_s_iload (i := 5) (by decide +kernel) rfl ?_
      refine tq_s_iload_n (kk := 2) (by decide +kernel) rfl ?_
      refine tq_s_isub (by decide +kernel) ?_
      exact ac_X12_form_151 hB115 hB125 h
    · replace h := h.2 hc
      refine tq_s_iload_n (kk := 2) (by decide +kernel) rfl ?_
      refine tq_k_ic (n := 1) (v := (1 : Int32)) (by decide +kernel) kc_1 ?_
      refine tq_s_isub (by decide +kernel) ?_
      refine tq_s_iload (i := 5) (by decide +kernel) rfl ?_
      refine tq_s_isub (by decide +kernel) ?_
      refine tq_s_goto (off := 7) (tgt := 151) (by decide +kernel) (by decide +kernel) ?_
      exact ac_X12_form_151 hB115 hB125 h
theorem ac_X12_form_125 {K : Nat × (Nat → Int32)} {x : Nat} {Q : tq_O → tq_S → Prop} {B115 : Int32 → tq_S → Prop} {a1 : Int32} {a2 : Int32} {a4 : Int32} {a5 : Int32} {a6 : Int32} {z : tq_S} (hB115 : ∀ (b5 : Int32) (z : tq_S), B115 b5 z → tq_T K 2 x mm_X12_form 115 [.ref 51, .int a1, .int a2, .null, .int a4, .int b5, .null, .null, .null] [] z Q) (h : wc_X12_form_125 B115 Q a1 a2 a4 a5 a6 z) : tq_T K 2 x mm_X12_form 125 [.ref 51, .int a1, .int a2, .null, .int a4, .int a5, .int a6, .null, .null] [] z Q :=
  tq_lp_T (σ := Int32 × tq_S) (s := (a6, z)) (G := fun s => tq_T K 2 x mm_X12_form 125 [.ref 51, .int a1, .int a2, .null, .int a4, .int a5, .int s.1, .null, .null] [] s.2 Q) (fun B hB s h => ab_X12_form_125 hB115 (fun b6 z h => hB (b6, z) h) h) h
def wc_X12_form_293 (Q : tq_O → tq_S → Prop)  (z : tq_S) : Prop := wm_X12_many z (tq_wi fun r102 z101 => Q (.inl (some (.int r102))) z101)
theorem ac_X12_form_293 {K : Nat × (Nat → Int32)} {x : Nat} {Q : tq_O → tq_S → Prop}  {z : tq_S} (h : wc_X12_form_293 Q z) : tq_T K 2 x mm_X12_form 293 [.ref 51, .null, .null, .null, .null, .null, .null, .null, .null] [] z Q := by
  unfold wc_X12_form_293 at h
  refine tq_s_aload_n (kk := 0) (by decide +kernel) rfl ?_
  refine tq_callV (as := []) (st := []) (d1 := 0) (x1 := 0) (x2 := x) (by decide +kernel) ln_12_160 mf_X12_many rfl sh_51 rfl (by decide) np_X12_many rfl (Nat.le_of_ble_eq_true rfl) (by decide) (Nat.zero_add _).symm (tq_M_mono (am_X12_many h) ?_)
  refine tq_wi_e (fun r102 z101 h => ?_)
  exact tq_ret_i (st := []) (by decide +kernel) rfl h
def wb_X12_form_115 (B115 : Int32 → tq_S → Prop) (Q : tq_O → tq_S → Prop) (a1 : Int32) (a2 : Int32) (a4 : Int32) (a5 : Int32) (z : tq_S) : Prop := ((a4 ≤ a5 → wc_X12_form_293 Q z) ∧ (¬ a4 ≤ a5 → wc_X12_form_125 B115 Q a1 a2 a4 a5 (0 : Int32) z))
def wc_X12_form_115 (Q : tq_O → tq_S → Prop) (a1 : Int32) (a2 : Int32) (a4 : Int32) (a5 : Int32) (z : tq_S) : Prop := tq_lp (σ := Int32 × tq_S) (fun B s => wb_X12_form_115 (fun b5 z => B (b5, z)) Q a1 a2 a4 s.1 s.2) (a5, z)
theorem ab_X12_form_115 {K : Nat × (Nat → Int32)} {x : Nat} {Q : tq_O → tq_S → Prop} {B115 : Int32 → tq_S → Prop} {a1 : Int32} {a2 : Int32} {a4 : Int32} {a5 : Int32} {z : tq_S} (hB115 : ∀ (b5 : Int32) (z : tq_S), B115 b5 z → tq_T K 2 x mm_X12_form 115 [.ref 51, .int a1, .int a2, .null, .int a4, .int b5, .null, .null, .null] [] z Q) (h : wb_X12_form_115 B115 Q a1 a2 a4 a5 z) : tq_T K 2 x mm_X12_form 115 [.ref 51, .int a1, .int a2, .null, .int a4, .int a5, .null, .null, .null] [] z Q := by
  unfold wb_X12_form_115 at h
  refine tq_s_iload (i := 5) (by decide +kernel) rfl ?_
  refine tq_s_iload (i := 4) (by decide +kernel) rfl ?_
  refine tq_icmp_ge (off := 174) (tgt := 293) (by decide +kernel) (by decide +kernel) (fun hc => ?_) (fun hc => ?_)
  · replace h := h.1 hc
    exact tq_to (tq_lk1 (tq_ld1 (tq_ld1 (tq_lk1 (tq_ld1 (tq_ld1 (tq_lk1 (tq_lk1 (tq_lk1 tq_l0))))))))) (ac_X12_form_293 h)
  · replace h := h.2 hc
    refine tq_k_ic (n := 0) (v := (0 : Int32)) (by decide +kernel) kc_0 ?_
    refine tq_s_istore (i := 6) (L9 := [.ref 51, .int a1, .int a2, .null, .int a4, .int a5, .int (0 : Int32), .null, .null]) (by decide +kernel) (by decide) rfl ?_
    exact ac_X12_form_125 hB115 h
theorem ac_X12_form_115 {K : Nat × (Nat → Int32)} {x : Nat} {Q : tq_O → tq_S → Prop} {a1 : Int32} {a2 : Int32} {a4 : Int32} {a5 : Int32} {z : tq_S} (h : wc_X12_form_115 Q a1 a2 a4 a5 z) : tq_T K 2 x mm_X12_form 115 [.ref 51, .int a1, .int a2, .null, .int a4, .int a5, .null, .null, .null] [] z Q :=
  tq_lp_T (σ := Int32 × tq_S) (s := (a5, z)) (G := fun s => tq_T K 2 x mm_X12_form 115 [.ref 51, .int a1, .int a2, .null, .int a4, .int s.1, .null, .null, .null] [] s.2 Q) (fun B hB s h => ab_X12_form_115 (fun b5 z h => hB (b5, z) h) h) h
def wc_X12_form_101 (Q : tq_O → tq_S → Prop) (a1 : Int32) (a2 : Int32) (s0 : Int32) (z : tq_S) : Prop := wm_X12_rectangle s0 s0 (1 : Int32) z (tq_wv fun z101 => wc_X12_form_115 Q a1 a2 s0 (0 : Int32) z101)
theorem ac_X12_form_101 {K : Nat × (Nat → Int32)} {x : Nat} {Q : tq_O → tq_S → Prop} {a1 : Int32} {a2 : Int32} {s0 : Int32} {z : tq_S} (h : wc_X12_form_101 Q a1 a2 s0 z) : tq_T K 2 x mm_X12_form 101 [.ref 51, .int a1, .int a2, .null, .null, .null, .null, .null, .null] [.int s0] z Q := by
  unfold wc_X12_form_101 at h
  refine tq_s_istore (i := 4) (L9 := [.ref 51, .int a1, .int a2, .null, .int s0, .null, .null, .null, .null]) (by decide +kernel) (by decide) rfl ?_
  refine tq_s_aload_n (kk := 0) (by decide +kernel) rfl ?_
  refine tq_s_iload (i := 4) (by decide +kernel) rfl ?_
  refine tq_s_iload (i := 4) (by decide +kernel) rfl ?_
  refine tq_k_ic (n := 1) (v := (1 : Int32)) (by decide +kernel) kc_1 ?_
  refine tq_callV (as := [.int s0, .int s0, .int (1 : Int32)]) (st := []) (d1 := 1) (x1 := 0) (x2 := x) (by decide +kernel) ln_12_156 mf_X12_rectangle rfl sh_51 rfl (by decide) np_X12_rectangle rfl (Nat.le_of_ble_eq_true rfl) (by decide) (Nat.zero_add _).symm (tq_M_mono (am_X12_rectangle h) ?_)
  refine tq_wv_e (fun z101 h => ?_)
  refine tq_k_ic (n := 0) (v := (0 : Int32)) (by decide +kernel) kc_0 ?_
  refine tq_s_istore (i := 5) (L9 := [.ref 51, .int a1, .int a2, .null, .int s0, .int (0 : Int32), .null, .null, .null]) (by decide +kernel) (by decide) rfl ?_
  exact ac_X12_form_115 h
def wc_X12_form_79 (Q : tq_O → tq_S → Prop) (a1 : Int32) (a2 : Int32) (s0 : Int32) (z : tq_S) : Prop := wm_X12_isThrown s0 (1 : Int32) z (tq_wi fun r102 z101 => ((r102 = 0 → ((¬ a1 = (97 : Int32) → wc_X12_form_101 Q a1 a2 a2 z101) ∧ (a1 = (97 : Int32) → wc_X12_form_101 Q a1 a2 ((2 : Int32) * a2) z101))) ∧ (¬ r102 = 0 → Q (.inl (some (.int (0 : Int32)))) z101)))
theorem ac_X12_form_79 {K : Nat × (Nat → Int32)} {x : Nat} {Q : tq_O → tq_S → Prop} {a1 : Int32} {a2 : Int32} {s0 : Int32} {z : tq_S} (h : wc_X12_form_79 Q a1 a2 s0 z) : tq_T K 2 x mm_X12_form 79 [.ref 51, .int a1, .int a2, .null, .null, .null, .null, .null, .null] [.int s0, .ref 51] z Q := by
  unfold wc_X12_form_79 at h
  refine tq_k_ic (n := 1) (v := (1 : Int32)) (by decide +kernel) kc_1 ?_
  refine tq_callV (as := [.int s0, .int (1 : Int32)]) (st := []) (d1 := 0) (x1 := 0) (x2 := x) (by decide +kernel) ln_12_152 mf_X12_isThrown rfl sh_51 rfl (by decide) np_X12_isThrown rfl (Nat.le_of_ble_eq_true rfl) (by decide) (Nat.zero_add _).symm (tq_M_mono (am_X12_isThrown h) ?_)
  refine tq_wi_e (fun r102 z101 h => ?_)
  refine tq_if_eq (off := 5) (tgt := 88) (by decide +kernel) (by decide +kernel) (fun hc => ?_) (fun hc => ?_)
  · replace h := h.1 hc
    refine tq_s_iload_n (kk := 1) (by decide +kernel) rfl ?_
    refine tq_k_bi (n := 97) (v := (97 : Int32)) (by decide +kernel) kb_97 ?_
    refine tq_icmp_ne (off := 9) (tgt := 100) (by decide +kernel) (by decide +kernel) (fun hc => ?_) (fun hc => ?_)
    · replace h := h.1 hc
      refine tq_s_iload_n (kk := 2) (by decide +kernel) rfl ?_
      exact ac_X12_form_101 h
    · replace h := h.2 hc
      refine tq_k_ic (n := 2) (v := (2 : Int32)) (by decide +kernel) kc_2 ?_
      refine tq_s_iload_n (kk := 2) (by decide +kernel) rfl ?_
      refine tq_s_imul (by decide +kernel) ?_
      refine tq_s_goto (off := 4) (tgt := 101) (by decide +kernel) (by decide +kernel) ?_
      exact ac_X12_form_101 h
  · replace h := h.2 hc
    refine tq_k_ic (n := 0) (v := (0 : Int32)) (by decide +kernel) kc_0 ?_
    exact tq_ret_i (st := []) (by decide +kernel) rfl h
def wc_X12_form_68 (Q : tq_O → tq_S → Prop) (a1 : Int32) (a2 : Int32) (s0 : Int32) (z : tq_S) : Prop := ((¬ s0 = 0 → wc_X12_form_79 Q a1 a2 (0 : Int32) z) ∧ (s0 = 0 → wc_X12_form_79 Q a1 a2 (1 : Int32) z))
theorem ac_X12_form_68 {K : Nat × (Nat → Int32)} {x : Nat} {Q : tq_O → tq_S → Prop} {a1 : Int32} {a2 : Int32} {s0 : Int32} {z : tq_S} (h : wc_X12_form_68 Q a1 a2 s0 z) : tq_T K 2 x mm_X12_form 68 [.ref 51, .int a1, .int a2, .null, .null, .null, .null, .null, .null] [.int s0] z Q := by
  unfold wc_X12_form_68 at h
  refine tq_s_istore_n (kk := 3) (L9 := [.ref 51, .int a1, .int a2, .int s0, .null, .null, .null, .null, .null]) (by decide +kernel) (by decide) rfl ?_
  refine tq_s_aload_n (kk := 0) (by decide +kernel) rfl ?_
  refine tq_s_iload_n (kk := 3) (by decide +kernel) rfl ?_
  refine tq_if_ne (off := 7) (tgt := 78) (by decide +kernel) (by decide +kernel) (fun hc => ?_) (fun hc => ?_)
  · replace h := h.1 hc
    refine tq_k_ic (n := 0) (v := (0 : Int32)) (by decide +kernel) kc_0 ?_
    exact tq_to (tq_lk1 (tq_lk1 (tq_lk1 (tq_ld1 (tq_lk1 (tq_lk1 (tq_lk1 (tq_lk1 (tq_lk1 tq_l0))))))))) (ac_X12_form_79 h)
  · replace h := h.2 hc
    refine tq_k_ic (n := 1) (v := (1 : Int32)) (by decide +kernel) kc_1 ?_
    refine tq_s_goto (off := 4) (tgt := 79) (by decide +kernel) (by decide +kernel) ?_
    exact tq_to (tq_lk1 (tq_lk1 (tq_lk1 (tq_ld1 (tq_lk1 (tq_lk1 (tq_lk1 (tq_lk1 (tq_lk1 tq_l0))))))))) (ac_X12_form_79 h)
def wc_X12_form_63 (Q : tq_O → tq_S → Prop) (a1 : Int32) (a2 : Int32) (z : tq_S) : Prop := wc_X12_form_68 Q a1 a2 (1 : Int32) z
theorem ac_X12_form_63 {K : Nat × (Nat → Int32)} {x : Nat} {Q : tq_O → tq_S → Prop} {a1 : Int32} {a2 : Int32} {z : tq_S} (h : wc_X12_form_63 Q a1 a2 z) : tq_T K 2 x mm_X12_form 63 [.ref 51, .int a1, .int a2, .null, .null, .null, .null, .null, .null] [] z Q := by
  unfold wc_X12_form_63 at h
  refine tq_k_ic (n := 1) (v := (1 : Int32)) (by decide +kernel) kc_1 ?_
  refine tq_s_goto (off := 4) (tgt := 68) (by decide +kernel) (by decide +kernel) ?_
  exact ac_X12_form_68 h
def wc_X12_form_67 (Q : tq_O → tq_S → Prop) (a1 : Int32) (a2 : Int32) (z : tq_S) : Prop := wc_X12_form_68 Q a1 a2 (0 : Int32) z
theorem ac_X12_form_67 {K : Nat × (Nat → Int32)} {x : Nat} {Q : tq_O → tq_S → Prop} {a1 : Int32} {a2 : Int32} {z : tq_S} (h : wc_X12_form_67 Q a1 a2 z) : tq_T K 2 x mm_X12_form 67 [.ref 51, .int a1, .int a2, .null, .null, .null, .null, .null, .null] [] z Q := by
  unfold wc_X12_form_67 at h
  refine tq_k_ic (n := 0) (v := (0 : Int32)) (by decide +kernel) kc_0 ?_
  exact ac_X12_form_68 h
def wc_X12_form_47 (Q : tq_O → tq_S → Prop) (a1 : Int32) (a2 : Int32) (z : tq_S) : Prop := ((¬ a1 = (99 : Int32) → wc_X12_form_67 Q a1 a2 z) ∧ (a1 = (99 : Int32) → wm_X12_isIn a2 (2 : Int32) (8 : Int32) z (tq_wi fun r102 z101 => ((r102 = 0 → wc_X12_form_67 Q a1 a2 z101) ∧ (¬ r102 = 0 → wc_X12_form_63 Q a1 a2 z101)))))
theorem ac_X12_form_47 {K : Nat × (Nat → Int32)} {x : Nat} {Q : tq_O → tq_S → Prop} {a1 : Int32} {a2 : Int32} {z : tq_S} (h : wc_X12_form_47 Q a1 a2 z) : tq_T K 2 x mm_X12_form 47 [.ref 51, .int a1, .int a2, .null, .null, .null, .null, .null, .null] [] z Q := by
  unfold wc_X12_form_47 at h
  refine tq_s_iload_n (kk := 1) (by decide +kernel) rfl ?_
  refine tq_k_bi (n := 99) (v := (99 : Int32)) (by decide +kernel) kb_99 ?_
  refine tq_icmp_ne (off := 17) (tgt := 67) (by decide +kernel) (by decide +kernel) (fun hc => ?_) (fun hc => ?_)
  · replace h := h.1 hc
    exact ac_X12_form_67 h
  · replace h := h.2 hc
    refine tq_s_iload_n (kk := 2) (by decide +kernel) rfl ?_
    refine tq_k_ic (n := 2) (v := (2 : Int32)) (by decide +kernel) kc_2 ?_
    refine tq_k_bi (n := 8) (v := (8 : Int32)) (by decide +kernel) kb_8 ?_
    refine tq_callS (as := [.int a2, .int (2 : Int32), .int (8 : Int32)]) (st := []) (d1 := 0) (x1 := 0) (x2 := x) (by decide +kernel) ln_12_148 mf_X12_isIn rfl (by decide) np_X12_isIn rfl (Nat.le_of_ble_eq_true rfl) (by decide) (Nat.zero_add _).symm (tq_M_mono (am_X12_isIn h) ?_)
    refine tq_wi_e (fun r102 z101 h => ?_)
    refine tq_if_eq (off := 7) (tgt := 67) (by decide +kernel) (by decide +kernel) (fun hc => ?_) (fun hc => ?_)
    · replace h := h.1 hc
      exact ac_X12_form_67 h
    · replace h := h.2 hc
      exact ac_X12_form_63 h
def wc_X12_form_31 (Q : tq_O → tq_S → Prop) (a1 : Int32) (a2 : Int32) (z : tq_S) : Prop := ((¬ a1 = (111 : Int32) → wc_X12_form_47 Q a1 a2 z) ∧ (a1 = (111 : Int32) → wm_X12_isIn a2 (3 : Int32) (8 : Int32) z (tq_wi fun r102 z101 => ((¬ r102 = 0 → wc_X12_form_63 Q a1 a2 z101) ∧ (r102 = 0 → wc_X12_form_47 Q a1 a2 z101)))))
theorem ac_X12_form_31 {K : Nat × (Nat → Int32)} {x : Nat} {Q : tq_O → tq_S → Prop} {a1 : Int32} {a2 : Int32} {z : tq_S} (h : wc_X12_form_31 Q a1 a2 z) : tq_T K 2 x mm_X12_form 31 [.ref 51, .int a1, .int a2, .null, .null, .null, .null, .null, .null] [] z Q := by
  unfold wc_X12_form_31 at h
  refine tq_s_iload_n (kk := 1) (by decide +kernel) rfl ?_
  refine tq_k_bi (n := 111) (v := (111 : Int32)) (by decide +kernel) kb_111 ?_
  refine tq_icmp_ne (off := 13) (tgt := 47) (by decide +kernel) (by decide +kernel) (fun hc => ?_) (fun hc => ?_)
  · replace h := h.1 hc
    exact ac_X12_form_47 h
  · replace h := h.2 hc
    refine tq_s_iload_n (kk := 2) (by decide +kernel) rfl ?_
    refine tq_k_ic (n := 3) (v := (3 : Int32)) (by decide +kernel) kc_3 ?_
    refine tq_k_bi (n := 8) (v := (8 : Int32)) (by decide +kernel) kb_8 ?_
    refine tq_callS (as := [.int a2, .int (3 : Int32), .int (8 : Int32)]) (st := []) (d1 := 0) (x1 := 0) (x2 := x) (by decide +kernel) ln_12_148 mf_X12_isIn rfl (by decide) np_X12_isIn rfl (Nat.le_of_ble_eq_true rfl) (by decide) (Nat.zero_add _).symm (tq_M_mono (am_X12_isIn h) ?_)
    refine tq_wi_e (fun r102 z101 h => ?_)
    refine tq_if_ne (off := 19) (tgt := 63) (by decide +kernel) (by decide +kernel) (fun hc => ?_) (fun hc => ?_)
    · replace h := h.1 hc
      exact ac_X12_form_63 h
    · replace h := h.2 hc
      exact ac_X12_form_47 h
def wc_X12_form_15 (Q : tq_O → tq_S → Prop) (a1 : Int32) (a2 : Int32) (z : tq_S) : Prop := ((¬ a1 = (115 : Int32) → wc_X12_form_31 Q a1 a2 z) ∧ (a1 = (115 : Int32) → wm_X12_isIn a2 (1 : Int32) (8 : Int32) z (tq_wi fun r102 z101 => ((¬ r102 = 0 → wc_X12_form_63 Q a1 a2 z101) ∧ (r102 = 0 → wc_X12_form_31 Q a1 a2 z101)))))
theorem ac_X12_form_15 {K : Nat × (Nat → Int32)} {x : Nat} {Q : tq_O → tq_S → Prop} {a1 : Int32} {a2 : Int32} {z : tq_S} (h : wc_X12_form_15 Q a1 a2 z) : tq_T K 2 x mm_X12_form 15 [.ref 51, .int a1, .int a2, .null, .null, .null, .null, .null, .null] [] z Q := by
  unfold wc_X12_form_15 at h
  refine tq_s_iload_n (kk := 1) (by decide +kernel) rfl ?_
  refine tq_k_bi (n := 115) (v := (115 : Int32)) (by decide +kernel) kb_115 ?_
  refine tq_icmp_ne (off := 13) (tgt := 31) (by decide +kernel) (by decide +kernel) (fun hc => ?_) (fun hc => ?_)
  · replace h := h.1 hc
    exact ac_X12_form_31 h
  · replace h := h.2 hc
    refine tq_s_iload_n (kk := 2) (by decide +kernel) rfl ?_
    refine tq_k_ic (n := 1) (v := (1 : Int32)) (by decide +kernel) kc_1 ?_
    refine tq_k_bi (n := 8) (v := (8 : Int32)) (by decide +kernel) kb_8 ?_
    refine tq_callS (as := [.int a2, .int (1 : Int32), .int (8 : Int32)]) (st := []) (d1 := 0) (x1 := 0) (x2 := x) (by decide +kernel) ln_12_148 mf_X12_isIn rfl (by decide) np_X12_isIn rfl (Nat.le_of_ble_eq_true rfl) (by decide) (Nat.zero_add _).symm (tq_M_mono (am_X12_isIn h) ?_)
    refine tq_wi_e (fun r102 z101 h => ?_)
    refine tq_if_ne (off := 35) (tgt := 63) (by decide +kernel) (by decide +kernel) (fun hc => ?_) (fun hc => ?_)
    · replace h := h.1 hc
      exact ac_X12_form_63 h
    · replace h := h.2 hc
      exact ac_X12_form_31 h
def wm_X12_form (a1 : Int32) (a2 : Int32) (z : tq_S) (Q : tq_O → tq_S → Prop) : Prop := ((¬ a1 = (97 : Int32) → wc_X12_form_15 Q a1 a2 z) ∧ (a1 = (97 : Int32) → wm_X12_isIn a2 (1 : Int32) (4 : Int32) z (tq_wi fun r2 z1 => ((¬ r2 = 0 → wc_X12_form_63 Q a1 a2 z1) ∧ (r2 = 0 → wc_X12_form_15 Q a1 a2 z1)))))
theorem am_X12_form {K : Nat × (Nat → Int32)} {x : Nat} {z : tq_S} {Q : tq_O → tq_S → Prop} {a1 : Int32} {a2 : Int32} (h : wm_X12_form a1 a2 z Q) : tq_M K 2 x mm_X12_form [.ref 51, .int a1, .int a2] z Q := by
  unfold wm_X12_form at h
  refine tq_enter (L := [.ref 51, .int a1, .int a2, .null, .null, .null, .null, .null, .null]) mf_X12_form.1 rfl rfl (Nat.le_of_ble_eq_true rfl) ?_
  refine tq_s_iload_n (kk := 1) (by decide +kernel) rfl ?_
  refine tq_k_bi (n := 97) (v := (97 : Int32)) (by decide +kernel) kb_97 ?_
  refine tq_icmp_ne (off := 12) (tgt := 15) (by decide +kernel) (by decide +kernel) (fun hc => ?_) (fun hc => ?_)
  · replace h := h.1 hc
    exact ac_X12_form_15 h
  · replace h := h.2 hc
    refine tq_s_iload_n (kk := 2) (by decide +kernel) rfl ?_
    refine tq_k_ic (n := 1) (v := (1 : Int32)) (by decide +kernel) kc_1 ?_
    refine tq_k_ic (n := 4) (v := (4 : Int32)) (by decide +kernel) kc_4 ?_
    refine tq_callS (as := [.int a2, .int (1 : Int32), .int (4 : Int32)]) (st := []) (d1 := 0) (x1 := 0) (x2 := x) (by decide +kernel) ln_12_148 mf_X12_isIn rfl (by decide) np_X12_isIn rfl (Nat.le_of_ble_eq_true rfl) (by decide) (Nat.zero_add _).symm (tq_M_mono (am_X12_isIn h) ?_)
    refine tq_wi_e (fun r2 z1 h => ?_)
    refine tq_if_ne (off := 51) (tgt := 63) (by decide +kernel) (by decide +kernel) (fun hc => ?_) (fun hc => ?_)
    · replace h := h.1 hc
      exact ac_X12_form_63 h
    · replace h := h.2 hc
      exact ac_X12_form_15 h
def wm_X12_isCell (a1 : Int32) (a2 : Int32) (z : tq_S) (Q : tq_O → tq_S → Prop) : Prop := wm_X12_isIn a1 (0 : Int32) ((tq_fi z 3265) - (1 : Int32)) z (tq_wi fun r2 z1 => ((r2 = 0 → Q (.inl (some (.int (0 : Int32)))) z1) ∧ (¬ r2 = 0 → wm_X12_isIn a2 (0 : Int32) ((tq_fi z1 3266) - (1 : Int32)) z1 (tq_wi fun r4 z3 => ((r4 = 0 → Q (.inl (some (.int (0 : Int32)))) z3) ∧ (¬ r4 = 0 → vp_in (((8 : Int32) * a2) + a1) 64 ∧ (((tq_ai z3 52 (Int32.toNatClampNeg (((8 : Int32) * a2) + a1))) = 0 → Q (.inl (some (.int (0 : Int32)))) z3) ∧ (¬ (tq_ai z3 52 (Int32.toNatClampNeg (((8 : Int32) * a2) + a1))) = 0 → Q (.inl (some (.int (1 : Int32)))) z3))))))))
theorem am_X12_isCell {K : Nat × (Nat → Int32)} {x : Nat} {z : tq_S} {Q : tq_O → tq_S → Prop} {a1 : Int32} {a2 : Int32} (h : wm_X12_isCell a1 a2 z Q) : tq_M K 1 x mm_X12_isCell [.ref 51, .int a1, .int a2] z Q := by
  unfold wm_X12_isCell at h
  refine tq_enter (L := [.ref 51, .int a1, .int a2]) mf_X12_isCell.1 rfl rfl (Nat.le_of_ble_eq_true rfl) ?_
  refine tq_s_iload_n (kk := 1) (by decide +kernel) rfl ?_
  refine tq_k_ic (n := 0) (v := (0 : Int32)) (by decide +kernel) kc_0 ?_
  refine tq_s_aload_n (kk := 0) (by decide +kernel) rfl ?_
  refine fg_12_7_51 rfl (by decide +kernel) ?_
  refine tq_k_ic (n := 1) (v := (1 : Int32)) (by decide +kernel) kc_1 ?_
  refine tq_s_isub (by decide +kernel) ?_
  refine tq_callS (as := [.int a1, .int (0 : Int32), .int ((tq_fi z 3265) - (1 : Int32))]) (st := []) (d1 := 0) (x1 := 0) (x2 := x) (by decide +kernel) ln_12_148 mf_X12_isIn rfl (by decide) np_X12_isIn rfl (Nat.le_of_ble_eq_true rfl) (by decide) (Nat.zero_add _).symm (tq_M_mono (am_X12_isIn h) ?_)
  refine tq_wi_e (fun r2 z1 h => ?_)
  refine tq_if_eq (off := 35) (tgt := 46) (by decide +kernel) (by decide +kernel) (fun hc => ?_) (fun hc => ?_)
  · replace h := h.1 hc
    refine tq_k_ic (n := 0) (v := (0 : Int32)) (by decide +kernel) kc_0 ?_
    exact tq_ret_z (st := []) (ty := .boolean) (by decide +kernel) (by decide +kernel) rfl h
  · replace h := h.2 hc
    refine tq_s_iload_n (kk := 2) (by decide +kernel) rfl ?_
    refine tq_k_ic (n := 0) (v := (0 : Int32)) (by decide +kernel) kc_0 ?_
    refine tq_s_aload_n (kk := 0) (by decide +kernel) rfl ?_
    refine fg_12_13_51 rfl (by decide +kernel) ?_
    refine tq_k_ic (n := 1) (v := (1 : Int32)) (by decide +kernel) kc_1 ?_
    refine tq_s_isub (by decide +kernel) ?_
    refine tq_callS (as := [.int a2, .int (0 : Int32), .int ((tq_fi z1 3266) - (1 : Int32))]) (st := []) (d1 := 0) (x1 := 0) (x2 := x) (by decide +kernel) ln_12_148 mf_X12_isIn rfl (by decide) np_X12_isIn rfl (Nat.le_of_ble_eq_true rfl) (by decide) (Nat.zero_add _).symm (tq_M_mono (am_X12_isIn h) ?_)
    refine tq_wi_e (fun r4 z3 h => ?_)
    refine tq_if_eq (off := 21) (tgt := 46) (by decide +kernel) (by decide +kernel) (fun hc => ?_) (fun hc => ?_)
    · replace h := h.1 hc
      refine tq_k_ic (n := 0) (v := (0 : Int32)) (by decide +kernel) kc_0 ?_
      exact tq_ret_z (st := []) (ty := .boolean) (by decide +kernel) (by decide +kernel) rfl h
    · replace h := h.2 hc
      refine tq_s_aload_n (kk := 0) (by decide +kernel) rfl ?_
      refine fg_12_16_51 rfl (by decide +kernel) ?_
      refine tq_k_bi (n := 8) (v := (8 : Int32)) (by decide +kernel) kb_8 ?_
      refine tq_s_iload_n (kk := 2) (by decide +kernel) rfl ?_
      refine tq_s_imul (by decide +kernel) ?_
      refine tq_s_iload_n (kk := 1) (by decide +kernel) rfl ?_
      refine tq_s_iadd (by decide +kernel) ?_
      refine tq_s_zald (by decide +kernel) sh_52 h.1 ?_
      replace h := h.2
      refine tq_if_eq (off := 7) (tgt := 46) (by decide +kernel) (by decide +kernel) (fun hc => ?_) (fun hc => ?_)
      · replace h := h.1 hc
        refine tq_k_ic (n := 0) (v := (0 : Int32)) (by decide +kernel) kc_0 ?_
        exact tq_ret_z (st := []) (ty := .boolean) (by decide +kernel) (by decide +kernel) rfl h
      · replace h := h.2 hc
        refine tq_k_ic (n := 1) (v := (1 : Int32)) (by decide +kernel) kc_1 ?_
        refine tq_s_goto (off := 4) (tgt := 47) (by decide +kernel) (by decide +kernel) ?_
        exact tq_ret_z (st := []) (ty := .boolean) (by decide +kernel) (by decide +kernel) rfl h
def wm_X12_has (a1 : Int32) (a2 : Int32) (z : tq_S) (Q : tq_O → tq_S → Prop) : Prop := ∀ z1 : tq_S, z1 = tq_sfi z 3264 (0 : Int32) → wm_X12_isCell a1 a2 z1 (tq_wi fun r3 z2 => tq_nz r3 ∧ Q (.inl (some (.int r3))) z2)
theorem am_X12_has {K : Nat × (Nat → Int32)} {x : Nat} {z : tq_S} {Q : tq_O → tq_S → Prop} {a1 : Int32} {a2 : Int32} (h : wm_X12_has a1 a2 z Q) : tq_M K 2 x mm_X12_has [.ref 51, .int a1, .int a2] z Q := by
  unfold wm_X12_has at h
  refine tq_enter (L := [.ref 51, .int a1, .int a2]) mf_X12_has.1 rfl rfl (Nat.le_of_ble_eq_true rfl) ?_
  refine tq_s_aload_n (kk := 0) (by decide +kernel) rfl ?_
  refine tq_k_ic (n := 0) (v := (0 : Int32)) (by decide +kernel) kc_0 ?_
  refine fp_12_129_51 rfl (by decide +kernel) (fun z1 ez1 => ?_)
  replace h := h z1 ez1
  refine tq_s_aload_n (kk := 0) (by decide +kernel) rfl ?_
  refine tq_s_iload_n (kk := 1) (by decide +kernel) rfl ?_
  refine tq_s_iload_n (kk := 2) (by decide +kernel) rfl ?_
  refine tq_callV (as := [.int a1, .int a2]) (st := []) (d1 := 1) (x1 := 0) (x2 := x) (by decide +kernel) ln_12_164 mf_X12_isCell rfl sh_51 rfl (by decide) np_X12_isCell rfl (Nat.le_of_ble_eq_true rfl) (by decide) (Nat.zero_add _).symm (tq_M_mono (am_X12_isCell h) ?_)
  refine tq_wi_e (fun r3 z2 h => ?_)
  exact tq_ret_z (st := []) (ty := .boolean) (by decide +kernel) (tq_nz_f h.1).1 rfl h.2
def wc_X12_cut_15 (Q : tq_O → tq_S → Prop) (a1 : Int32) (a2 : Int32) (s0 : Int32) (z : tq_S) : Prop := wm_X12_isThrown s0 (1 : Int32) z (tq_wi fun r102 z101 => ((r102 = 0 → vp_in (((8 : Int32) * a2) + a1) 64 ∧ ∀ z103 : tq_S, z103 = tq_sai z101 52 (upd (tq_ai z101 52) (Int32.toNatClampNeg (((8 : Int32) * a2) + a1)) (vp_nar .boolean (0 : Int32))) → wm_X12_anew z103 (tq_wv fun z104 => wm_X12_many z104 (tq_wi fun r106 z105 => Q (.inl (some (.int r106))) z105))) ∧ (¬ r102 = 0 → Q (.inl (some (.int (0 : Int32)))) z101)))
theorem ac_X12_cut_15 {K : Nat × (Nat → Int32)} {x : Nat} {Q : tq_O → tq_S → Prop} {a1 : Int32} {a2 : Int32} {s0 : Int32} {z : tq_S} (h : wc_X12_cut_15 Q a1 a2 s0 z) : tq_T K 2 x mm_X12_cut 15 [.ref 51, .int a1, .int a2] [.int s0, .ref 51] z Q := by
  unfold wc_X12_cut_15 at h
  refine tq_k_ic (n := 1) (v := (1 : Int32)) (by decide +kernel) kc_1 ?_
  refine tq_callV (as := [.int s0, .int (1 : Int32)]) (st := []) (d1 := 0) (x1 := 0) (x2 := x) (by decide +kernel) ln_12_152 mf_X12_isThrown rfl sh_51 rfl (by decide) np_X12_isThrown rfl (Nat.le_of_ble_eq_true rfl) (by decide) (Nat.zero_add _).symm (tq_M_mono (am_X12_isThrown h) ?_)
  refine tq_wi_e (fun r102 z101 h => ?_)
  refine tq_if_eq (off := 5) (tgt := 24) (by decide +kernel) (by decide +kernel) (fun hc => ?_) (fun hc => ?_)
  · replace h := h.1 hc
    refine tq_s_aload_n (kk := 0) (by decide +kernel) rfl ?_
    refine fg_12_16_51 rfl (by decide +kernel) ?_
    refine tq_k_bi (n := 8) (v := (8 : Int32)) (by decide +kernel) kb_8 ?_
    refine tq_s_iload_n (kk := 2) (by decide +kernel) rfl ?_
    refine tq_s_imul (by decide +kernel) ?_
    refine tq_s_iload_n (kk := 1) (by decide +kernel) rfl ?_
    refine tq_s_iadd (by decide +kernel) ?_
    refine tq_k_ic (n := 0) (v := (0 : Int32)) (by decide +kernel) kc_0 ?_
    refine tq_g_zast (by decide +kernel) sh_52 h.1 (fun z103 ez103 => ?_)
    replace h := h.2 z103 ez103
    refine tq_s_aload_n (kk := 0) (by decide +kernel) rfl ?_
    refine tq_callV (as := []) (st := []) (d1 := 0) (x1 := 0) (x2 := x) (by decide +kernel) ln_12_145 mf_X12_anew rfl sh_51 rfl (by decide) np_X12_anew rfl (Nat.le_of_ble_eq_true rfl) (by decide) (Nat.zero_add _).symm (tq_M_mono (am_X12_anew h) ?_)
    refine tq_wv_e (fun z104 h => ?_)
    refine tq_s_aload_n (kk := 0) (by decide +kernel) rfl ?_
    refine tq_callV (as := []) (st := []) (d1 := 0) (x1 := 0) (x2 := x) (by decide +kernel) ln_12_160 mf_X12_many rfl sh_51 rfl (by decide) np_X12_many rfl (Nat.le_of_ble_eq_true rfl) (by decide) (Nat.zero_add _).symm (tq_M_mono (am_X12_many h) ?_)
    refine tq_wi_e (fun r106 z105 h => ?_)
    exact tq_ret_i (st := []) (by decide +kernel) rfl h
  · replace h := h.2 hc
    refine tq_k_ic (n := 0) (v := (0 : Int32)) (by decide +kernel) kc_0 ?_
    exact tq_ret_i (st := []) (by decide +kernel) rfl h
def wm_X12_cut (a1 : Int32) (a2 : Int32) (z : tq_S) (Q : tq_O → tq_S → Prop) : Prop := wm_X12_isCell a1 a2 z (tq_wi fun r2 z1 => ((¬ r2 = 0 → wc_X12_cut_15 Q a1 a2 (0 : Int32) z1) ∧ (r2 = 0 → wc_X12_cut_15 Q a1 a2 (1 : Int32) z1)))
theorem am_X12_cut {K : Nat × (Nat → Int32)} {x : Nat} {z : tq_S} {Q : tq_O → tq_S → Prop} {a1 : Int32} {a2 : Int32} (h : wm_X12_cut a1 a2 z Q) : tq_M K 2 x mm_X12_cut [.ref 51, .int a1, .int a2] z Q := by
  unfold wm_X12_cut at h
  refine tq_enter (L := [.ref 51, .int a1, .int a2]) mf_X12_cut.1 rfl rfl (Nat.le_of_ble_eq_true rfl) ?_
  refine tq_s_aload_n (kk := 0) (by decide +kernel) rfl ?_
  refine tq_s_aload_n (kk := 0) (by decide +kernel) rfl ?_
  refine tq_s_iload_n (kk := 1) (by decide +kernel) rfl ?_
  refine tq_s_iload_n (kk := 2) (by decide +kernel) rfl ?_
  refine tq_callV (as := [.int a1, .int a2]) (st := [.ref 51]) (d1 := 1) (x1 := 0) (x2 := x) (by decide +kernel) ln_12_164 mf_X12_isCell rfl sh_51 rfl (by decide) np_X12_isCell rfl (Nat.le_of_ble_eq_true rfl) (by decide) (Nat.zero_add _).symm (tq_M_mono (am_X12_isCell h) ?_)
  refine tq_wi_e (fun r2 z1 h => ?_)
  refine tq_if_ne (off := 7) (tgt := 14) (by decide +kernel) (by decide +kernel) (fun hc => ?_) (fun hc => ?_)
  · replace h := h.1 hc
    refine tq_k_ic (n := 0) (v := (0 : Int32)) (by decide +kernel) kc_0 ?_
    exact ac_X12_cut_15 h
  · replace h := h.2 hc
    refine tq_k_ic (n := 1) (v := (1 : Int32)) (by decide +kernel) kc_1 ?_
    refine tq_s_goto (off := 4) (tgt := 15) (by decide +kernel) (by decide +kernel) ?_
    exact ac_X12_cut_15 h
def wc_X12_fill_43 (Q : tq_O → tq_S → Prop) (a1 : Int32) (a2 : Int32) (s0 : Int32) (z : tq_S) : Prop := wm_X12_isThrown s0 (1 : Int32) z (tq_wi fun r102 z101 => ((r102 = 0 → vp_in (((8 : Int32) * a2) + a1) 64 ∧ ∀ z103 : tq_S, z103 = tq_sai z101 52 (upd (tq_ai z101 52) (Int32.toNatClampNeg (((8 : Int32) * a2) + a1)) (vp_nar .boolean (1 : Int32))) → wm_X12_anew z103 (tq_wv fun z104 => wm_X12_many z104 (tq_wi fun r106 z105 => Q (.inl (some (.int r106))) z105))) ∧ (¬ r102 = 0 → Q (.inl (some (.int (0 : Int32)))) z101)))
theorem ac_X12_fill_43 {K : Nat × (Nat → Int32)} {x : Nat} {Q : tq_O → tq_S → Prop} {a1 : Int32} {a2 : Int32} {s0 : Int32} {z : tq_S} (h : wc_X12_fill_43 Q a1 a2 s0 z) : tq_T K 2 x mm_X12_fill 43 [.ref 51, .int a1, .int a2] [.int s0, .ref 51] z Q := by
  unfold wc_X12_fill_43 at h
  refine tq_k_ic (n := 1) (v := (1 : Int32)) (by decide +kernel) kc_1 ?_
  refine tq_callV (as := [.int s0, .int (1 : Int32)]) (st := []) (d1 := 0) (x1 := 0) (x2 := x) (by decide +kernel) ln_12_152 mf_X12_isThrown rfl sh_51 rfl (by decide) np_X12_isThrown rfl (Nat.le_of_ble_eq_true rfl) (by decide) (Nat.zero_add _).symm (tq_M_mono (am_X12_isThrown h) ?_)
  refine tq_wi_e (fun r102 z101 h => ?_)
  refine tq_if_eq (off := 5) (tgt := 52) (by decide +kernel) (by decide +kernel) (fun hc => ?_) (fun hc => ?_)
  · replace h := h.1 hc
    refine tq_s_aload_n (kk := 0) (by decide +kernel) rfl ?_
    refine fg_12_16_51 rfl (by decide +kernel) ?_
    refine tq_k_bi (n := 8) (v := (8 : Int32)) (by decide +kernel) kb_8 ?_
    refine tq_s_iload_n (kk := 2) (by decide +kernel) rfl ?_
    refine tq_s_imul (by decide +kernel) ?_
    refine tq_s_iload_n (kk := 1) (by decide +kernel) rfl ?_
    refine tq_s_iadd (by decide +kernel) ?_
    refine tq_k_ic (n := 1) (v := (1 : Int32)) (by decide +kernel) kc_1 ?_
    refine tq_g_zast (by decide +kernel) sh_52 h.1 (fun z103 ez103 => ?_)
    replace h := h.2 z103 ez103
    refine tq_s_aload_n (kk := 0) (by decide +kernel) rfl ?_
    refine tq_callV (as := []) (st := []) (d1 := 0) (x1 := 0) (x2 := x) (by decide +kernel) ln_12_145 mf_X12_anew rfl sh_51 rfl (by decide) np_X12_anew rfl (Nat.le_of_ble_eq_true rfl) (by decide) (Nat.zero_add _).symm (tq_M_mono (am_X12_anew h) ?_)
    refine tq_wv_e (fun z104 h => ?_)
    refine tq_s_aload_n (kk := 0) (by decide +kernel) rfl ?_
    refine tq_callV (as := []) (st := []) (d1 := 0) (x1 := 0) (x2 := x) (by decide +kernel) ln_12_160 mf_X12_many rfl sh_51 rfl (by decide) np_X12_many rfl (Nat.le_of_ble_eq_true rfl) (by decide) (Nat.zero_add _).symm (tq_M_mono (am_X12_many h) ?_)
    refine tq_wi_e (fun r106 z105 h => ?_)
    exact tq_ret_i (st := []) (by decide +kernel) rfl h
  · replace h := h.2 hc
    refine tq_k_ic (n := 0) (v := (0 : Int32)) (by decide +kernel) kc_0 ?_
    exact tq_ret_i (st := []) (by decide +kernel) rfl h
def wc_X12_fill_38 (Q : tq_O → tq_S → Prop) (a1 : Int32) (a2 : Int32) (z : tq_S) : Prop := wc_X12_fill_43 Q a1 a2 (1 : Int32) z
theorem ac_X12_fill_38 {K : Nat × (Nat → Int32)} {x : Nat} {Q : tq_O → tq_S → Prop} {a1 : Int32} {a2 : Int32} {z : tq_S} (h : wc_X12_fill_38 Q a1 a2 z) : tq_T K 2 x mm_X12_fill 38 [.ref 51, .int a1, .int a2] [.ref 51] z Q := by
  unfold wc_X12_fill_38 at h
  refine tq_k_ic (n := 1) (v := (1 : Int32)) (by decide +kernel) kc_1 ?_
  refine tq_s_goto (off := 4) (tgt := 43) (by decide +kernel) (by decide +kernel) ?_
  exact ac_X12_fill_43 h
def wm_X12_fill (a1 : Int32) (a2 : Int32) (z : tq_S) (Q : tq_O → tq_S → Prop) : Prop := wm_X12_isIn a1 (0 : Int32) ((tq_fi z 3265) - (1 : Int32)) z (tq_wi fun r2 z1 => ((r2 = 0 → wc_X12_fill_38 Q a1 a2 z1) ∧ (¬ r2 = 0 → wm_X12_isIn a2 (0 : Int32) ((tq_fi z1 3266) - (1 : Int32)) z1 (tq_wi fun r4 z3 => ((r4 = 0 → wc_X12_fill_38 Q a1 a2 z3) ∧ (¬ r4 = 0 → wm_X12_isCell a1 a2 z3 (tq_wi fun r6 z5 => ((r6 = 0 → wc_X12_fill_43 Q a1 a2 (0 : Int32) z5) ∧ (¬ r6 = 0 → wc_X12_fill_38 Q a1 a2 z5)))))))))
theorem am_X12_fill {K : Nat × (Nat → Int32)} {x : Nat} {z : tq_S} {Q : tq_O → tq_S → Prop} {a1 : Int32} {a2 : Int32} (h : wm_X12_fill a1 a2 z Q) : tq_M K 2 x mm_X12_fill [.ref 51, .int a1, .int a2] z Q := by
  unfold wm_X12_fill at h
  refine tq_enter (L := [.ref 51, .int a1, .int a2]) mf_X12_fill.1 rfl rfl (Nat.le_of_ble_eq_true rfl) ?_
  refine tq_s_aload_n (kk := 0) (by decide +kernel) rfl ?_
  refine tq_s_iload_n (kk := 1) (by decide +kernel) rfl ?_
  refine tq_k_ic (n := 0) (v := (0 : Int32)) (by decide +kernel) kc_0 ?_
  refine tq_s_aload_n (kk := 0) (by decide +kernel) rfl ?_
  refine fg_12_7_51 rfl (by decide +kernel) ?_
  refine tq_k_ic (n := 1) (v := (1 : Int32)) (by decide +kernel) kc_1 ?_
  refine tq_s_isub (by decide +kernel) ?_
  refine tq_callS (as := [.int a1, .int (0 : Int32), .int ((tq_fi z 3265) - (1 : Int32))]) (st := [.ref 51]) (d1 := 0) (x1 := 0) (x2 := x) (by decide +kernel) ln_12_148 mf_X12_isIn rfl (by decide) np_X12_isIn rfl (Nat.le_of_ble_eq_true rfl) (by decide) (Nat.zero_add _).symm (tq_M_mono (am_X12_isIn h) ?_)
  refine tq_wi_e (fun r2 z1 h => ?_)
  refine tq_if_eq (off := 26) (tgt := 38) (by decide +kernel) (by decide +kernel) (fun hc => ?_) (fun hc => ?_)
  · replace h := h.1 hc
    exact ac_X12_fill_38 h
  · replace h := h.2 hc
    refine tq_s_iload_n (kk := 2) (by decide +kernel) rfl ?_
    refine tq_k_ic (n := 0) (v := (0 : Int32)) (by decide +kernel) kc_0 ?_
    refine tq_s_aload_n (kk := 0) (by decide +kernel) rfl ?_
    refine fg_12_13_51 rfl (by decide +kernel) ?_
    refine tq_k_ic (n := 1) (v := (1 : Int32)) (by decide +kernel) kc_1 ?_
    refine tq_s_isub (by decide +kernel) ?_
    refine tq_callS (as := [.int a2, .int (0 : Int32), .int ((tq_fi z1 3266) - (1 : Int32))]) (st := [.ref 51]) (d1 := 0) (x1 := 0) (x2 := x) (by decide +kernel) ln_12_148 mf_X12_isIn rfl (by decide) np_X12_isIn rfl (Nat.le_of_ble_eq_true rfl) (by decide) (Nat.zero_add _).symm (tq_M_mono (am_X12_isIn h) ?_)
    refine tq_wi_e (fun r4 z3 h => ?_)
    refine tq_if_eq (off := 12) (tgt := 38) (by decide +kernel) (by decide +kernel) (fun hc => ?_) (fun hc => ?_)
    · replace h := h.1 hc
      exact ac_X12_fill_38 h
    · replace h := h.2 hc
      refine tq_s_aload_n (kk := 0) (by decide +kernel) rfl ?_
      refine tq_s_iload_n (kk := 1) (by decide +kernel) rfl ?_
      refine tq_s_iload_n (kk := 2) (by decide +kernel) rfl ?_
      refine tq_callV (as := [.int a1, .int a2]) (st := [.ref 51]) (d1 := 1) (x1 := 0) (x2 := x) (by decide +kernel) ln_12_164 mf_X12_isCell rfl sh_51 rfl (by decide) np_X12_isCell rfl (Nat.le_of_ble_eq_true rfl) (by decide) (Nat.zero_add _).symm (tq_M_mono (am_X12_isCell h) ?_)
      refine tq_wi_e (fun r6 z5 h => ?_)
      refine tq_if_eq (off := 7) (tgt := 42) (by decide +kernel) (by decide +kernel) (fun hc => ?_) (fun hc => ?_)
      · replace h := h.1 hc
        refine tq_k_ic (n := 0) (v := (0 : Int32)) (by decide +kernel) kc_0 ?_
        exact ac_X12_fill_43 h
      · replace h := h.2 hc
        exact ac_X12_fill_38 h
def wc_X12_roll_28 (Q : tq_O → tq_S → Prop) (a1 : Int32) (s0 : Int32) (z : tq_S) : Prop := wm_X12_isThrown s0 (1 : Int32) z (tq_wi fun r102 z101 => ((r102 = 0 → ∀ v103 : Int32, v103 = (tq_fi z101 3267) → tq_nz a1 ∧ ∀ z104 : tq_S, z104 = tq_sfi z101 3267 a1 → wm_X12_anew z104 (tq_wv fun z105 => tq_nz v103 ∧ Q (.inl (some (.int v103))) z105)) ∧ (¬ r102 = 0 → Q (.inl (some (.int (0 : Int32)))) z101)))
theorem ac_X12_roll_28 {K : Nat × (Nat → Int32)} {x : Nat} {Q : tq_O → tq_S → Prop} {a1 : Int32} {s0 : Int32} {z : tq_S} (h : wc_X12_roll_28 Q a1 s0 z) : tq_T K 1 x mm_X12_roll 28 [.ref 51, .int a1, .null] [.int s0, .ref 51] z Q := by
  unfold wc_X12_roll_28 at h
  refine tq_k_ic (n := 1) (v := (1 : Int32)) (by decide +kernel) kc_1 ?_
  refine tq_callV (as := [.int s0, .int (1 : Int32)]) (st := []) (d1 := 0) (x1 := 0) (x2 := x) (by decide +kernel) ln_12_152 mf_X12_isThrown rfl sh_51 rfl (by decide) np_X12_isThrown rfl (Nat.le_of_ble_eq_true rfl) (by decide) (Nat.zero_add _).symm (tq_M_mono (am_X12_isThrown h) ?_)
  refine tq_wi_e (fun r102 z101 h => ?_)
  refine tq_if_eq (off := 5) (tgt := 37) (by decide +kernel) (by decide +kernel) (fun hc => ?_) (fun hc => ?_)
  · replace h := h.1 hc
    refine tq_s_aload_n (kk := 0) (by decide +kernel) rfl ?_
    refine fg_12_142_51 rfl (by decide +kernel) ?_
    refine tq_g_istore_n (kk := 2) (fun v103 => [.ref 51, .int a1, .int v103]) (by decide +kernel) (by decide) (fun _ => rfl) (fun v103 ev103 => ?_)
    replace h := h v103 ev103
    refine tq_s_aload_n (kk := 0) (by decide +kernel) rfl ?_
    refine tq_s_iload_n (kk := 1) (by decide +kernel) rfl ?_
    refine fp_12_142_51 rfl (by decide +kernel) (tq_nz_f h.1) (fun z104 ez104 => ?_)
    replace h := h.2 z104 ez104
    refine tq_s_aload_n (kk := 0) (by decide +kernel) rfl ?_
    refine tq_callV (as := []) (st := []) (d1 := 0) (x1 := 0) (x2 := x) (by decide +kernel) ln_12_145 mf_X12_anew rfl sh_51 rfl (by decide) np_X12_anew rfl (Nat.le_of_ble_eq_true rfl) (by decide) (Nat.zero_add _).symm (tq_M_mono (am_X12_anew h) ?_)
    refine tq_wv_e (fun z105 h => ?_)
    refine tq_s_iload_n (kk := 2) (by decide +kernel) rfl ?_
    exact tq_ret_z (st := []) (ty := .boolean) (by decide +kernel) (tq_nz_f h.1).1 rfl h.2
  · replace h := h.2 hc
    refine tq_k_ic (n := 0) (v := (0 : Int32)) (by decide +kernel) kc_0 ?_
    exact tq_ret_z (st := []) (ty := .boolean) (by decide +kernel) (by decide +kernel) rfl h
def wc_X12_roll_23 (Q : tq_O → tq_S → Prop) (a1 : Int32) (z : tq_S) : Prop := wc_X12_roll_28 Q a1 (1 : Int32) z
theorem ac_X12_roll_23 {K : Nat × (Nat → Int32)} {x : Nat} {Q : tq_O → tq_S → Prop} {a1 : Int32} {z : tq_S} (h : wc_X12_roll_23 Q a1 z) : tq_T K 1 x mm_X12_roll 23 [.ref 51, .int a1, .null] [.ref 51] z Q := by
  unfold wc_X12_roll_23 at h
  refine tq_k_ic (n := 1) (v := (1 : Int32)) (by decide +kernel) kc_1 ?_
  refine tq_s_goto (off := 4) (tgt := 28) (by decide +kernel) (by decide +kernel) ?_
  exact ac_X12_roll_28 h
def wc_X12_roll_27 (Q : tq_O → tq_S → Prop) (a1 : Int32) (z : tq_S) : Prop := wc_X12_roll_28 Q a1 (0 : Int32) z
theorem ac_X12_roll_27 {K : Nat × (Nat → Int32)} {x : Nat} {Q : tq_O → tq_S → Prop} {a1 : Int32} {z : tq_S} (h : wc_X12_roll_27 Q a1 z) : tq_T K 1 x mm_X12_roll 27 [.ref 51, .int a1, .null] [.ref 51] z Q := by
  unfold wc_X12_roll_27 at h
  refine tq_k_ic (n := 0) (v := (0 : Int32)) (by decide +kernel) kc_0 ?_
  exact ac_X12_roll_28 h
def wm_X12_roll (a1 : Int32) (z : tq_S) (Q : tq_O → tq_S → Prop) : Prop := ((a1 = 0 → wc_X12_roll_27 Q a1 z) ∧ (¬ a1 = 0 → ((((tq_fi z 3265) - (tq_fi z 3265) / (2 : Int32) * (2 : Int32)) = (1 : Int32) → wc_X12_roll_23 Q a1 z) ∧ (¬ ((tq_fi z 3265) - (tq_fi z 3265) / (2 : Int32) * (2 : Int32)) = (1 : Int32) → (((4 : Int32) ≤ (tq_fi z 3265) → wc_X12_roll_27 Q a1 z) ∧ (¬ (4 : Int32) ≤ (tq_fi z 3265) → wc_X12_roll_23 Q a1 z))))))
theorem am_X12_roll {K : Nat × (Nat → Int32)} {x : Nat} {z : tq_S} {Q : tq_O → tq_S → Prop} {a1 : Int32} (h : wm_X12_roll a1 z Q) : tq_M K 1 x mm_X12_roll [.ref 51, .int a1] z Q := by
  unfold wm_X12_roll at h
  refine tq_enter (L := [.ref 51, .int a1, .null]) mf_X12_roll.1 rfl rfl (Nat.le_of_ble_eq_true rfl) ?_
  refine tq_s_aload_n (kk := 0) (by decide +kernel) rfl ?_
  refine tq_s_iload_n (kk := 1) (by decide +kernel) rfl ?_
  refine tq_if_eq (off := 25) (tgt := 27) (by decide +kernel) (by decide +kernel) (fun hc => ?_) (fun hc => ?_)
  · replace h := h.1 hc
    exact ac_X12_roll_27 h
  · replace h := h.2 hc
    refine tq_s_aload_n (kk := 0) (by decide +kernel) rfl ?_
    refine fg_12_7_51 rfl (by decide +kernel) ?_
    refine tq_k_ic (n := 2) (v := (2 : Int32)) (by decide +kernel) kc_2 ?_
    refine tq_s_irem (by decide +kernel) (by decide +kernel) ?_
    refine tq_k_ic (n := 1) (v := (1 : Int32)) (by decide +kernel) kc_1 ?_
    refine tq_icmp_eq (off := 11) (tgt := 23) (by decide +kernel) (by decide +kernel) (fun hc => ?_) (fun hc => ?_)
    · replace h := h.1 hc
      exact ac_X12_roll_23 h
    · replace h := h.2 hc
      refine tq_s_aload_n (kk := 0) (by decide +kernel) rfl ?_
      refine fg_12_7_51 rfl (by decide +kernel) ?_
      refine tq_k_ic (n := 4) (v := (4 : Int32)) (by decide +kernel) kc_4 ?_
      refine tq_icmp_ge (off := 7) (tgt := 27) (by decide +kernel) (by decide +kernel) (fun hc => ?_) (fun hc => ?_)
      · replace h := h.1 hc
        exact ac_X12_roll_27 h
      · replace h := h.2 hc
        exact ac_X12_roll_23 h
def wm_X12_isDark (a0 : Int32) (a1 : Int32) (z : tq_S) (Q : tq_O → tq_S → Prop) : Prop := ((¬ ((a0 + a1) &&& (1 : Int32)) = 0 → Q (.inl (some (.int (0 : Int32)))) z) ∧ (((a0 + a1) &&& (1 : Int32)) = 0 → Q (.inl (some (.int (1 : Int32)))) z))
theorem am_X12_isDark {K : Nat × (Nat → Int32)} {x : Nat} {z : tq_S} {Q : tq_O → tq_S → Prop} {a0 : Int32} {a1 : Int32} (h : wm_X12_isDark a0 a1 z Q) : tq_M K 0 x mm_X12_isDark [.int a0, .int a1] z Q := by
  unfold wm_X12_isDark at h
  refine tq_enter (L := [.int a0, .int a1]) mf_X12_isDark.1 rfl rfl (Nat.le_of_ble_eq_true rfl) ?_
  refine tq_s_iload_n (kk := 0) (by decide +kernel) rfl ?_
  refine tq_s_iload_n (kk := 1) (by decide +kernel) rfl ?_
  refine tq_s_iadd (by decide +kernel) ?_
  refine tq_k_ic (n := 1) (v := (1 : Int32)) (by decide +kernel) kc_1 ?_
  refine tq_s_iand (by decide +kernel) ?_
  refine tq_if_ne (off := 7) (tgt := 12) (by decide +kernel) (by decide +kernel) (fun hc => ?_) (fun hc => ?_)
  · replace h := h.1 hc
    refine tq_k_ic (n := 0) (v := (0 : Int32)) (by decide +kernel) kc_0 ?_
    exact tq_ret_z (st := []) (ty := .boolean) (by decide +kernel) (by decide +kernel) rfl h
  · replace h := h.2 hc
    refine tq_k_ic (n := 1) (v := (1 : Int32)) (by decide +kernel) kc_1 ?_
    refine tq_s_goto (off := 4) (tgt := 13) (by decide +kernel) (by decide +kernel) ?_
    exact tq_ret_z (st := []) (ty := .boolean) (by decide +kernel) (by decide +kernel) rfl h
def wc_X12_cells_72 (B31 : Int32 → Int32 → tq_S → Prop) (Q : tq_O → tq_S → Prop) (a1 : Int32) (a3 : Int32) (s0 : Int32) (s1 : Int32) (z : tq_S) : Prop := ∀ v101 : Int32, v101 = (s1 + s0) → ∀ v102 : Int32, v102 = a3 + (1 : Int32) → B31 v101 v102 z
theorem ac_X12_cells_72 {K : Nat × (Nat → Int32)} {x : Nat} {Q : tq_O → tq_S → Prop} {B31 : Int32 → Int32 → tq_S → Prop} {a1 : Int32} {a3 : Int32} {s0 : Int32} {s1 : Int32} {z : tq_S} (hB31 : ∀ (b2 : Int32) (b3 : Int32) (z : tq_S), B31 b2 b3 z → tq_T K 1 x mm_X12_cells 31 [.ref 51, .int a1, .int b2, .int b3] [] z Q) (h : wc_X12_cells_72 B31 Q a1 a3 s0 s1 z) : tq_T K 1 x mm_X12_cells 72 [.ref 51, .int a1, .null, .int a3] [.int s0, .int s1] z Q := by
  unfold wc_X12_cells_72 at h
  refine tq_s_iadd (by decide +kernel) ?_
  refine tq_g_istore_n (kk := 2) (fun v101 => [.ref 51, .int a1, .int v101, .int a3]) (by decide +kernel) (by decide) (fun _ => rfl) (fun v101 ev101 => ?_)
  replace h := h v101 ev101
  refine tq_g_iinc (i := 3) (fun v102 => [.ref 51, .int a1, .int v101, .int v102]) (by decide +kernel) rfl (1 : Int32) kc_1 (fun _ => rfl) (fun v102 ev102 => ?_)
  replace h := h v102 ev102
  refine tq_s_goto (off := -46) (tgt := 31) (by decide +kernel) (by decide +kernel) ?_
  exact hB31 _ _ _ h
def wc_X12_cells_67 (B31 : Int32 → Int32 → tq_S → Prop) (Q : tq_O → tq_S → Prop) (a1 : Int32) (a3 : Int32) (s0 : Int32) (z : tq_S) : Prop := wc_X12_cells_72 B31 Q a1 a3 (1 : Int32) s0 z
theorem ac_X12_cells_67 {K : Nat × (Nat → Int32)} {x : Nat} {Q : tq_O → tq_S → Prop} {B31 : Int32 → Int32 → tq_S → Prop} {a1 : Int32} {a3 : Int32} {s0 : Int32} {z : tq_S} (hB31 : ∀ (b2 : Int32) (b3 : Int32) (z : tq_S), B31 b2 b3 z → tq_T K 1 x mm_X12_cells 31 [.ref 51, .int a1, .int b2, .int b3] [] z Q) (h : wc_X12_cells_67 B31 Q a1 a3 s0 z) : tq_T K 1 x mm_X12_cells 67 [.ref 51, .int a1, .null, .int a3] [.int s0] z Q := by
  unfold wc_X12_cells_67 at h
  refine tq_k_ic (n := 1) (v := (1 : Int32)) (by decide +kernel) kc_1 ?_
  refine tq_s_goto (off := 4) (tgt := 72) (by decide +kernel) (by decide +kernel) ?_
  exact ac_X12_cells_72 hB31 h
def wc_X12_cells_71 (B31 : Int32 → Int32 → tq_S → Prop) (Q : tq_O → tq_S → Prop) (a1 : Int32) (a3 : Int32) (s0 : Int32) (z : tq_S) : Prop := wc_X12_cells_72 B31 Q a1 a3 (0 : Int32) s0 z
theorem ac_X12_cells_71 {K : Nat × (Nat → Int32)} {x : Nat} {Q : tq_O → tq_S → Prop} {B31 : Int32 → Int32 → tq_S → Prop} {a1 : Int32} {a3 : Int32} {s0 : Int32} {z : tq_S} (hB31 : ∀ (b2 : Int32) (b3 : Int32) (z : tq_S), B31 b2 b3 z → tq_T K 1 x mm_X12_cells 31 [.ref 51, .int a1, .int b2, .int b3] [] z Q) (h : wc_X12_cells_71 B31 Q a1 a3 s0 z) : tq_T K 1 x mm_X12_cells 71 [.ref 51, .int a1, .null, .int a3] [.int s0] z Q := by
  unfold wc_X12_cells_71 at h
  refine tq_k_ic (n := 0) (v := (0 : Int32)) (by decide +kernel) kc_0 ?_
  exact ac_X12_cells_72 hB31 h
def wb_X12_cells_31 (B31 : Int32 → Int32 → tq_S → Prop) (Q : tq_O → tq_S → Prop) (a1 : Int32) (a2 : Int32) (a3 : Int32) (z : tq_S) : Prop := (((64 : Int32) ≤ a3 → Q (.inl (some (.int a2))) z) ∧ (¬ (64 : Int32) ≤ a3 → vp_in a3 64 ∧ (((tq_ai z 52 (Int32.toNatClampNeg a3)) = 0 → wc_X12_cells_71 B31 Q a1 a3 a2 z) ∧ (¬ (tq_ai z 52 (Int32.toNatClampNeg a3)) = 0 → ((a1 = (97 : Int32) → wc_X12_cells_67 B31 Q a1 a3 a2 z) ∧ (¬ a1 = (97 : Int32) → wm_X12_isDark (a3 - a3 / (8 : Int32) * (8 : Int32)) (a3 / (8 : Int32)) z (tq_wi fun r102 z101 => ((r102 = 0 → wc_X12_cells_71 B31 Q a1 a3 a2 z101) ∧ (¬ r102 = 0 → wc_X12_cells_67 B31 Q a1 a3 a2 z101)))))))))
def wc_X12_cells_31 (Q : tq_O → tq_S → Prop) (a1 : Int32) (a2 : Int32) (a3 : Int32) (z : tq_S) : Prop := tq_lp (σ := Int32 × Int32 × tq_S) (fun B s => wb_X12_cells_31 (fun b2 b3 z => B (b2, b3, z)) Q a1 s.1 s.2.1 s.2.2) (a2, a3, z)
theorem ab_X12_cells_31 {K : Nat × (Nat → Int32)} {x : Nat} {Q : tq_O → tq_S → Prop} {B31 : Int32 → Int32 → tq_S → Prop} {a1 : Int32} {a2 : Int32} {a3 : Int32} {z : tq_S} (hB31 : ∀ (b2 : Int32) (b3 : Int32) (z : tq_S), B31 b2 b3 z → tq_T K 1 x mm_X12_cells 31 [.ref 51, .int a1, .int b2, .int b3] [] z Q) (h : wb_X12_cells_31 B31 Q a1 a2 a3 z) : tq_T K 1 x mm_X12_cells 31 [.ref 51, .int a1, .int a2, .int a3] [] z Q := by
  unfold wb_X12_cells_31 at h
  refine tq_s_iload_n (kk := 3) (by decide +kernel) rfl ?_
  refine tq_k_bi (n := 64) (v := (64 : Int32)) (by decide +kernel) kb_64 ?_
  refine tq_icmp_ge (off := 46) (tgt := 80) (by decide +kernel) (by decide +kernel) (fun hc => ?_) (fun hc => ?_)
  · replace h := h.1 hc
    refine tq_s_iload_n (kk := 2) (by decide +kernel) rfl ?_
    exact tq_ret_i (st := []) (by decide +kernel) rfl h
  · replace h := h.2 hc
    refine tq_s_iload_n (kk := 2) (by decide +kernel) rfl ?_
    refine tq_s_aload_n (kk := 0) (by decide +kernel) rfl ?_
    refine fg_12_16_51 rfl (by decide +kernel) ?_
    refine tq_s_iload_n (kk := 3) (by decide +kernel) rfl ?_
    refine tq_s_zald (by decide +kernel) sh_52 h.1 ?_
    replace h := h.2
    refine tq_if_eq (off := 27) (tgt := 71) (by decide +kernel) (by decide +kernel) (fun hc => ?_) (fun hc => ?_)
    · replace h := h.1 hc
      exact tq_to (tq_lk1 (tq_lk1 (tq_ld1 (tq_lk1 tq_l0)))) (ac_X12_cells_71 hB31 h)
    · replace h := h.2 hc
      refine tq_s_iload_n (kk := 1) (by decide +kernel) rfl ?_
      refine tq_k_bi (n := 97) (v := (97 : Int32)) (by decide +kernel) kb_97 ?_
      refine tq_icmp_eq (off := 17) (tgt := 67) (by decide +kernel) (by decide +kernel) (fun hc => ?_) (fun hc => ?_)
      · replace h := h.1 hc
        exact tq_to (tq_lk1 (tq_lk1 (tq_ld1 (tq_lk1 tq_l0)))) (ac_X12_cells_67 hB31 h)
      · replace h := h.2 hc
        refine tq_s_iload_n (kk := 3) (by decide +kernel) rfl ?_
        refine tq_k_bi (n := 8) (v := (8 : Int32)) (by decide +kernel) kb_8 ?_
        refine tq_s_irem (by decide +kernel) (by decide +kernel) ?_
        refine tq_s_iload_n (kk := 3) (by decide +kernel) rfl ?_
        refine tq_k_bi (n := 8) (v := (8 : Int32)) (by decide +kernel) kb_8 ?_
        refine tq_s_idiv (by decide +kernel) (by decide +kernel) ?_
        refine tq_callS (as := [.int (a3 - a3 / (8 : Int32) * (8 : Int32)), .int (a3 / (8 : Int32))]) (st := [.int a2]) (d1 := 0) (x1 := 0) (x2 := x) (by decide +kernel) ln_12_168 mf_X12_isDark rfl (by decide) np_X12_isDark rfl (Nat.le_of_ble_eq_true rfl) (by decide) (Nat.zero_add _).symm (tq_M_mono (am_X12_isDark h) ?_)
        refine tq_wi_e (fun r102 z101 h => ?_)
        refine tq_if_eq (off := 7) (tgt := 71) (by decide +kernel) (by decide +kernel) (fun hc => ?_) (fun hc => ?_)
        · replace h := h.1 hc
          exact tq_to (tq_lk1 (tq_lk1 (tq_ld1 (tq_lk1 tq_l0)))) (ac_X12_cells_71 hB31 h)
        · replace h := h.2 hc
          exact tq_to (tq_lk1 (tq_lk1 (tq_ld1 (tq_lk1 tq_l0)))) (ac_X12_cells_67 hB31 h)
theorem ac_X12_cells_31 {K : Nat × (Nat → Int32)} {x : Nat} {Q : tq_O → tq_S → Prop} {a1 : Int32} {a2 : Int32} {a3 : Int32} {z : tq_S} (h : wc_X12_cells_31 Q a1 a2 a3 z) : tq_T K 1 x mm_X12_cells 31 [.ref 51, .int a1, .int a2, .int a3] [] z Q :=
  tq_lp_T (σ := Int32 × Int32 × tq_S) (s := (a2, a3, z)) (G := fun s => tq_T K 1 x mm_X12_cells 31 [.ref 51, .int a1, .int s.1, .int s.2.1] [] s.2.2 Q) (fun B hB s h => ab_X12_cells_31 (fun b2 b3 z h => hB (b2, b3, z) h) h) h
def wc_X12_cells_18 (Q : tq_O → tq_S → Prop) (a1 : Int32) (s0 : Int32) (z : tq_S) : Prop := wm_X12_isThrown s0 (1 : Int32) z (tq_wi fun r102 z101 => ((r102 = 0 → wc_X12_cells_31 Q a1 (0 : Int32) (0 : Int32) z101) ∧ (¬ r102 = 0 → Q (.inl (some (.int (0 : Int32)))) z101)))
theorem ac_X12_cells_18 {K : Nat × (Nat → Int32)} {x : Nat} {Q : tq_O → tq_S → Prop} {a1 : Int32} {s0 : Int32} {z : tq_S} (h : wc_X12_cells_18 Q a1 s0 z) : tq_T K 1 x mm_X12_cells 18 [.ref 51, .int a1, .null, .null] [.int s0, .ref 51] z Q := by
  unfold wc_X12_cells_18 at h
  refine tq_k_ic (n := 1) (v := (1 : Int32)) (by decide +kernel) kc_1 ?_
  refine tq_callV (as := [.int s0, .int (1 : Int32)]) (st := []) (d1 := 0) (x1 := 0) (x2 := x) (by decide +kernel) ln_12_152 mf_X12_isThrown rfl sh_51 rfl (by decide) np_X12_isThrown rfl (Nat.le_of_ble_eq_true rfl) (by decide) (Nat.zero_add _).symm (tq_M_mono (am_X12_isThrown h) ?_)
  refine tq_wi_e (fun r102 z101 h => ?_)
  refine tq_if_eq (off := 5) (tgt := 27) (by decide +kernel) (by decide +kernel) (fun hc => ?_) (fun hc => ?_)
  · replace h := h.1 hc
    refine tq_k_ic (n := 0) (v := (0 : Int32)) (by decide +kernel) kc_0 ?_
    refine tq_s_istore_n (kk := 2) (L9 := [.ref 51, .int a1, .int (0 : Int32), .null]) (by decide +kernel) (by decide) rfl ?_
    refine tq_k_ic (n := 0) (v := (0 : Int32)) (by decide +kernel) kc_0 ?_
    refine tq_s_istore_n (kk := 3) (L9 := [.ref 51, .int a1, .int (0 : Int32), .int (0 : Int32)]) (by decide +kernel) (by decide) rfl ?_
    exact ac_X12_cells_31 h
  · replace h := h.2 hc
    refine tq_k_ic (n := 0) (v := (0 : Int32)) (by decide +kernel) kc_0 ?_
    exact tq_ret_i (st := []) (by decide +kernel) rfl h
def wc_X12_cells_17 (Q : tq_O → tq_S → Prop) (a1 : Int32) (z : tq_S) : Prop := wc_X12_cells_18 Q a1 (0 : Int32) z
theorem ac_X12_cells_17 {K : Nat × (Nat → Int32)} {x : Nat} {Q : tq_O → tq_S → Prop} {a1 : Int32} {z : tq_S} (h : wc_X12_cells_17 Q a1 z) : tq_T K 1 x mm_X12_cells 17 [.ref 51, .int a1, .null, .null] [.ref 51] z Q := by
  unfold wc_X12_cells_17 at h
  refine tq_k_ic (n := 0) (v := (0 : Int32)) (by decide +kernel) kc_0 ?_
  exact ac_X12_cells_18 h
def wm_X12_cells (a1 : Int32) (z : tq_S) (Q : tq_O → tq_S → Prop) : Prop := ((a1 = (97 : Int32) → wc_X12_cells_17 Q a1 z) ∧ (¬ a1 = (97 : Int32) → ((a1 = (100 : Int32) → wc_X12_cells_17 Q a1 z) ∧ (¬ a1 = (100 : Int32) → wc_X12_cells_18 Q a1 (1 : Int32) z))))
theorem am_X12_cells {K : Nat × (Nat → Int32)} {x : Nat} {z : tq_S} {Q : tq_O → tq_S → Prop} {a1 : Int32} (h : wm_X12_cells a1 z Q) : tq_M K 1 x mm_X12_cells [.ref 51, .int a1] z Q := by
  unfold wm_X12_cells at h
  refine tq_enter (L := [.ref 51, .int a1, .null, .null]) mf_X12_cells.1 rfl rfl (Nat.le_of_ble_eq_true rfl) ?_
  refine tq_s_aload_n (kk := 0) (by decide +kernel) rfl ?_
  refine tq_s_iload_n (kk := 1) (by decide +kernel) rfl ?_
  refine tq_k_bi (n := 97) (v := (97 : Int32)) (by decide +kernel) kb_97 ?_
  refine tq_icmp_eq (off := 13) (tgt := 17) (by decide +kernel) (by decide +kernel) (fun hc => ?_) (fun hc => ?_)
  · replace h := h.1 hc
    exact ac_X12_cells_17 h
  · replace h := h.2 hc
    refine tq_s_iload_n (kk := 1) (by decide +kernel) rfl ?_
    refine tq_k_bi (n := 100) (v := (100 : Int32)) (by decide +kernel) kb_100 ?_
    refine tq_icmp_eq (off := 7) (tgt := 17) (by decide +kernel) (by decide +kernel) (fun hc => ?_) (fun hc => ?_)
    · replace h := h.1 hc
      exact ac_X12_cells_17 h
    · replace h := h.2 hc
      refine tq_k_ic (n := 1) (v := (1 : Int32)) (by decide +kernel) kc_1 ?_
      refine tq_s_goto (off := 4) (tgt := 18) (by decide +kernel) (by decide +kernel) ?_
      exact ac_X12_cells_18 h
def wc_X12_beside_69 (Q : tq_O → tq_S → Prop) (a3 : Int32) (a4 : Int32) (z : tq_S) : Prop := wm_X12_isIn a3 (0 : Int32) ((tq_fi z 3265) - (1 : Int32)) z (tq_wi fun r102 z101 => ((r102 = 0 → Q (.inl (some (.int (-1 : Int32)))) z101) ∧ (¬ r102 = 0 → wm_X12_isIn a4 (0 : Int32) ((tq_fi z101 3266) - (1 : Int32)) z101 (tq_wi fun r104 z103 => ((r104 = 0 → Q (.inl (some (.int (-1 : Int32)))) z103) ∧ (¬ r104 = 0 → Q (.inl (some (.int (((8 : Int32) * a4) + a3)))) z103))))))
theorem ac_X12_beside_69 {K : Nat × (Nat → Int32)} {x : Nat} {Q : tq_O → tq_S → Prop} {a3 : Int32} {a4 : Int32} {z : tq_S} (h : wc_X12_beside_69 Q a3 a4 z) : tq_T K 1 x mm_X12_beside 69 [.ref 51, .null, .null, .int a3, .int a4] [] z Q := by
  unfold wc_X12_beside_69 at h
  refine tq_s_iload_n (kk := 3) (by decide +kernel) rfl ?_
  refine tq_k_ic (n := 0) (v := (0 : Int32)) (by decide +kernel) kc_0 ?_
  refine tq_s_aload_n (kk := 0) (by decide +kernel) rfl ?_
  refine fg_12_7_51 rfl (by decide +kernel) ?_
  refine tq_k_ic (n := 1) (v := (1 : Int32)) (by decide +kernel) kc_1 ?_
  refine tq_s_isub (by decide +kernel) ?_
  refine tq_callS (as := [.int a3, .int (0 : Int32), .int ((tq_fi z 3265) - (1 : Int32))]) (st := []) (d1 := 0) (x1 := 0) (x2 := x) (by decide +kernel) ln_12_148 mf_X12_isIn rfl (by decide) np_X12_isIn rfl (Nat.le_of_ble_eq_true rfl) (by decide) (Nat.zero_add _).symm (tq_M_mono (am_X12_isIn h) ?_)
  refine tq_wi_e (fun r102 z101 h => ?_)
  refine tq_if_eq (off := 28) (tgt := 108) (by decide +kernel) (by decide +kernel) (fun hc => ?_) (fun hc => ?_)
  · replace h := h.1 hc
    refine tq_k_ic (n := -1) (v := (-1 : Int32)) (by decide +kernel) kc_m1 ?_
    exact tq_ret_i (st := []) (by decide +kernel) rfl h
  · replace h := h.2 hc
    refine tq_s_iload (i := 4) (by decide +kernel) rfl ?_
    refine tq_k_ic (n := 0) (v := (0 : Int32)) (by decide +kernel) kc_0 ?_
    refine tq_s_aload_n (kk := 0) (by decide +kernel) rfl ?_
    refine fg_12_13_51 rfl (by decide +kernel) ?_
    refine tq_k_ic (n := 1) (v := (1 : Int32)) (by decide +kernel) kc_1 ?_
    refine tq_s_isub (by decide +kernel) ?_
    refine tq_callS (as := [.int a4, .int (0 : Int32), .int ((tq_fi z101 3266) - (1 : Int32))]) (st := []) (d1 := 0) (x1 := 0) (x2 := x) (by decide +kernel) ln_12_148 mf_X12_isIn rfl (by decide) np_X12_isIn rfl (Nat.le_of_ble_eq_true rfl) (by decide) (Nat.zero_add _).symm (tq_M_mono (am_X12_isIn h) ?_)
    refine tq_wi_e (fun r104 z103 h => ?_)
    refine tq_if_eq (off := 13) (tgt := 108) (by decide +kernel) (by decide +kernel) (fun hc => ?_) (fun hc => ?_)
    · replace h := h.1 hc
      refine tq_k_ic (n := -1) (v := (-1 : Int32)) (by decide +kernel) kc_m1 ?_
      exact tq_ret_i (st := []) (by decide +kernel) rfl h
    · replace h := h.2 hc
      refine tq_k_bi (n := 8) (v := (8 : Int32)) (by decide +kernel) kb_8 ?_
      refine tq_s_iload (i := 4) (by decide +kernel) rfl ?_
      refine tq_s_imul (by decide +kernel) ?_
      refine tq_s_iload_n (kk := 3) (by decide +kernel) rfl ?_
      refine tq_s_iadd (by decide +kernel) ?_
      refine tq_s_goto (off := 4) (tgt := 109) (by decide +kernel) (by decide +kernel) ?_
      exact tq_ret_i (st := []) (by decide +kernel) rfl h
def wc_X12_beside_47 (Q : tq_O → tq_S → Prop) (a3 : Int32) (s0 : Int32) (s1 : Int32) (z : tq_S) : Prop := ∀ v101 : Int32, v101 = (s1 + s0) → (((tq_fi z 3267) = 0 → wc_X12_beside_69 Q a3 v101 z) ∧ (¬ (tq_fi z 3267) = 0 → (¬ (tq_fi z 3265) = 0) ∧ ∀ v102 : Int32, v102 = ((a3 + (tq_fi z 3265)) - (a3 + (tq_fi z 3265)) / (tq_fi z 3265) * (tq_fi z 3265)) → wc_X12_beside_69 Q v102 v101 z))
theorem ac_X12_beside_47 {K : Nat × (Nat → Int32)} {x : Nat} {Q : tq_O → tq_S → Prop} {a3 : Int32} {s0 : Int32} {s1 : Int32} {z : tq_S} (h : wc_X12_beside_47 Q a3 s0 s1 z) : tq_T K 1 x mm_X12_beside 47 [.ref 51, .null, .null, .int a3, .null] [.int s0, .int s1] z Q := by
  unfold wc_X12_beside_47 at h
  refine tq_s_iadd (by decide +kernel) ?_
  refine tq_g_istore (i := 4) (fun v101 => [.ref 51, .null, .null, .int a3, .int v101]) (by decide +kernel) (by decide) (fun _ => rfl) (fun v101 ev101 => ?_)
  replace h := h v101 ev101
  refine tq_s_aload_n (kk := 0) (by decide +kernel) rfl ?_
  refine fg_12_142_51 rfl (by decide +kernel) ?_
  refine tq_if_eq (off := 15) (tgt := 69) (by decide +kernel) (by decide +kernel) (fun hc => ?_) (fun hc => ?_)
  · replace h := h.1 hc
    exact ac_X12_beside_69 h
  · replace h := h.2 hc
    refine tq_s_iload_n (kk := 3) (by decide +kernel) rfl ?_
    refine tq_s_aload_n (kk := 0) (by decide +kernel) rfl ?_
    refine fg_12_7_51 rfl (by decide +kernel) ?_
    refine tq_s_iadd (by decide +kernel) ?_
    refine tq_s_aload_n (kk := 0) (by decide +kernel) rfl ?_
    refine fg_12_7_51 rfl (by decide +kernel) ?_
    refine tq_s_irem (by decide +kernel) h.1 ?_
    replace h := h.2
    refine tq_g_istore_n (kk := 3) (fun v102 => [.ref 51, .null, .null, .int v102, .int v101]) (by decide +kernel) (by decide) (fun _ => rfl) (fun v102 ev102 => ?_)
    replace h := h v102 ev102
    exact ac_X12_beside_69 h
def wc_X12_beside_22 (Q : tq_O → tq_S → Prop) (a1 : Int32) (a2 : Int32) (s0 : Int32) (s1 : Int32) (z : tq_S) : Prop := ∀ v101 : Int32, v101 = (s1 + s0) → ((¬ a2 = (2 : Int32) → ((¬ a2 = (3 : Int32) → wc_X12_beside_47 Q v101 (0 : Int32) (a1 / (8 : Int32)) z) ∧ (a2 = (3 : Int32) → wc_X12_beside_47 Q v101 (-1 : Int32) (a1 / (8 : Int32)) z))) ∧ (a2 = (2 : Int32) → wc_X12_beside_47 Q v101 (1 : Int32) (a1 / (8 : Int32)) z))
theorem ac_X12_beside_22 {K : Nat × (Nat → Int32)} {x : Nat} {Q : tq_O → tq_S → Prop} {a1 : Int32} {a2 : Int32} {s0 : Int32} {s1 : Int32} {z : tq_S} (h : wc_X12_beside_22 Q a1 a2 s0 s1 z) : tq_T K 1 x mm_X12_beside 22 [.ref 51, .int a1, .int a2, .null, .null] [.int s0, .int s1] z Q := by
  unfold wc_X12_beside_22 at h
  refine tq_s_iadd (by decide +kernel) ?_
  refine tq_g_istore_n (kk := 3) (fun v101 => [.ref 51, .int a1, .int a2, .int v101, .null]) (by decide +kernel) (by decide) (fun _ => rfl) (fun v101 ev101 => ?_)
  replace h := h v101 ev101
  refine tq_s_iload_n (kk := 1) (by decide +kernel) rfl ?_
  refine tq_k_bi (n := 8) (v := (8 : Int32)) (by decide +kernel) kb_8 ?_
  refine tq_s_idiv (by decide +kernel) (by decide +kernel) ?_
  refine tq_s_iload_n (kk := 2) (by decide +kernel) rfl ?_
  refine tq_k_ic (n := 2) (v := (2 : Int32)) (by decide +kernel) kc_2 ?_
  refine tq_icmp_ne (off := 7) (tgt := 37) (by decide +kernel) (by decide +kernel) (fun hc => ?_) (fun hc => ?_)
  · replace h := h.1 hc
    refine tq_s_iload_n (kk := 2) (by decide +kernel) rfl ?_
    refine tq_k_ic (n := 3) (v := (3 : Int32)) (by decide +kernel) kc_3 ?_
    refine tq_icmp_ne (off := 7) (tgt := 46) (by decide +kernel) (by decide +kernel) (fun hc => ?_) (fun hc => ?_)
    · replace h := h.1 hc
      refine tq_k_ic (n := 0) (v := (0 : Int32)) (by decide +kernel) kc_0 ?_
      exact tq_to (tq_lk1 (tq_ld1 (tq_ld1 (tq_lk1 (tq_lk1 tq_l0))))) (ac_X12_beside_47 h)
    · replace h := h.2 hc
      refine tq_k_ic (n := -1) (v := (-1 : Int32)) (by decide +kernel) kc_m1 ?_
      refine tq_s_goto (off := 4) (tgt := 47) (by decide +kernel) (by decide +kernel) ?_
      exact tq_to (tq_lk1 (tq_ld1 (tq_ld1 (tq_lk1 (tq_lk1 tq_l0))))) (ac_X12_beside_47 h)
  · replace h := h.2 hc
    refine tq_k_ic (n := 1) (v := (1 : Int32)) (by decide +kernel) kc_1 ?_
    refine tq_s_goto (off := 13) (tgt := 47) (by decide +kernel) (by decide +kernel) ?_
    exact tq_to (tq_lk1 (tq_ld1 (tq_ld1 (tq_lk1 (tq_lk1 tq_l0))))) (ac_X12_beside_47 h)
def wm_X12_beside (a1 : Int32) (a2 : Int32) (z : tq_S) (Q : tq_O → tq_S → Prop) : Prop := ((¬ a2 = 0 → ((¬ a2 = (1 : Int32) → wc_X12_beside_22 Q a1 a2 (0 : Int32) (a1 - a1 / (8 : Int32) * (8 : Int32)) z) ∧ (a2 = (1 : Int32) → wc_X12_beside_22 Q a1 a2 (-1 : Int32) (a1 - a1 / (8 : Int32) * (8 : Int32)) z))) ∧ (a2 = 0 → wc_X12_beside_22 Q a1 a2 (1 : Int32) (a1 - a1 / (8 : Int32) * (8 : Int32)) z))
theorem am_X12_beside {K : Nat × (Nat → Int32)} {x : Nat} {z : tq_S} {Q : tq_O → tq_S → Prop} {a1 : Int32} {a2 : Int32} (h : wm_X12_beside a1 a2 z Q) : tq_M K 1 x mm_X12_beside [.ref 51, .int a1, .int a2] z Q := by
  unfold wm_X12_beside at h
  refine tq_enter (L := [.ref 51, .int a1, .int a2, .null, .null]) mf_X12_beside.1 rfl rfl (Nat.le_of_ble_eq_true rfl) ?_
  refine tq_s_iload_n (kk := 1) (by decide +kernel) rfl ?_
  refine tq_k_bi (n := 8) (v := (8 : Int32)) (by decide +kernel) kb_8 ?_
  refine tq_s_irem (by decide +kernel) (by decide +kernel) ?_
  refine tq_s_iload_n (kk := 2) (by decide +kernel) rfl ?_
  refine tq_if_ne (off := 7) (tgt := 12) (by decide +kernel) (by decide +kernel) (fun hc => ?_) (fun hc => ?_)
  · replace h := h.1 hc
    refine tq_s_iload_n (kk := 2) (by decide +kernel) rfl ?_
    refine tq_k_ic (n := 1) (v := (1 : Int32)) (by decide +kernel) kc_1 ?_
    refine tq_icmp_ne (off := 7) (tgt := 21) (by decide +kernel) (by decide +kernel) (fun hc => ?_) (fun hc => ?_)
    · replace h := h.1 hc
      refine tq_k_ic (n := 0) (v := (0 : Int32)) (by decide +kernel) kc_0 ?_
      exact ac_X12_beside_22 h
    · replace h := h.2 hc
      refine tq_k_ic (n := -1) (v := (-1 : Int32)) (by decide +kernel) kc_m1 ?_
      refine tq_s_goto (off := 4) (tgt := 22) (by decide +kernel) (by decide +kernel) ?_
      exact ac_X12_beside_22 h
  · replace h := h.2 hc
    refine tq_k_ic (n := 1) (v := (1 : Int32)) (by decide +kernel) kc_1 ?_
    refine tq_s_goto (off := 13) (tgt := 22) (by decide +kernel) (by decide +kernel) ?_
    exact ac_X12_beside_22 h
def wb_X12_noneSeen_2 (B2 : Int32 → tq_S → Prop) (Q : tq_O → tq_S → Prop) (a1 : Int32) (z : tq_S) : Prop := (((64 : Int32) ≤ a1 → Q (.inl none) z) ∧ (¬ (64 : Int32) ≤ a1 → vp_in a1 64 ∧ ∀ z101 : tq_S, z101 = tq_sai z 61 (upd (tq_ai z 61) (Int32.toNatClampNeg a1) (vp_nar .boolean (0 : Int32))) → ∀ v102 : Int32, v102 = a1 + (1 : Int32) → B2 v102 z101))
def wc_X12_noneSeen_2 (Q : tq_O → tq_S → Prop) (a1 : Int32) (z : tq_S) : Prop := tq_lp (σ := Int32 × tq_S) (fun B s => wb_X12_noneSeen_2 (fun b1 z => B (b1, z)) Q s.1 s.2) (a1, z)
theorem ab_X12_noneSeen_2 {K : Nat × (Nat → Int32)} {x : Nat} {Q : tq_O → tq_S → Prop} {B2 : Int32 → tq_S → Prop} {a1 : Int32} {z : tq_S} (hB2 : ∀ (b1 : Int32) (z : tq_S), B2 b1 z → tq_T K 0 x mm_X12_noneSeen 2 [.ref 51, .int b1] [] z Q) (h : wb_X12_noneSeen_2 B2 Q a1 z) : tq_T K 0 x mm_X12_noneSeen 2 [.ref 51, .int a1] [] z Q := by
  unfold wb_X12_noneSeen_2 at h
  refine tq_s_iload_n (kk := 1) (by decide +kernel) rfl ?_
  refine tq_k_bi (n := 64) (v := (64 : Int32)) (by decide +kernel) kb_64 ?_
  refine tq_icmp_ge (off := 16) (tgt := 21) (by decide +kernel) (by decide +kernel) (fun hc => ?_) (fun hc => ?_)
  · replace h := h.1 hc
    exact tq_ret_v (st := []) (by decide +kernel) rfl h
  · replace h := h.2 hc
    refine tq_s_aload_n (kk := 0) (by decide +kernel) rfl ?_
    refine fg_12_46_51 rfl (by decide +kernel) ?_
    refine tq_s_iload_n (kk := 1) (by decide +kernel) rfl ?_
    refine tq_k_ic (n := 0) (v := (0 : Int32)) (by decide +kernel) kc_0 ?_
    refine tq_g_zast (by decide +kernel) sh_61 h.1 (fun z101 ez101 => ?_)
    replace h := h.2 z101 ez101
    refine tq_g_iinc (i := 1) (fun v102 => [.ref 51, .int v102]) (by decide +kernel) rfl (1 : Int32) kc_1 (fun _ => rfl) (fun v102 ev102 => ?_)
    replace h := h v102 ev102
    refine tq_s_goto (off := -16) (tgt := 2) (by decide +kernel) (by decide +kernel) ?_
    exact hB2 _ _ h
theorem ac_X12_noneSeen_2 {K : Nat × (Nat → Int32)} {x : Nat} {Q : tq_O → tq_S → Prop} {a1 : Int32} {z : tq_S} (h : wc_X12_noneSeen_2 Q a1 z) : tq_T K 0 x mm_X12_noneSeen 2 [.ref 51, .int a1] [] z Q :=
  tq_lp_T (σ := Int32 × tq_S) (s := (a1, z)) (G := fun s => tq_T K 0 x mm_X12_noneSeen 2 [.ref 51, .int s.1] [] s.2 Q) (fun B hB s h => ab_X12_noneSeen_2 (fun b1 z h => hB (b1, z) h) h) h
def wm_X12_noneSeen  (z : tq_S) (Q : tq_O → tq_S → Prop) : Prop := wc_X12_noneSeen_2 Q (0 : Int32) z
theorem am_X12_noneSeen {K : Nat × (Nat → Int32)} {x : Nat} {z : tq_S} {Q : tq_O → tq_S → Prop}  (h : wm_X12_noneSeen z Q) : tq_M K 0 x mm_X12_noneSeen [.ref 51] z Q := by
  unfold wm_X12_noneSeen at h
  refine tq_enter (L := [.ref 51, .null]) mf_X12_noneSeen.1 rfl rfl (Nat.le_of_ble_eq_true rfl) ?_
  refine tq_k_ic (n := 0) (v := (0 : Int32)) (by decide +kernel) kc_0 ?_
  refine tq_s_istore_n (kk := 1) (L9 := [.ref 51, .int (0 : Int32)]) (by decide +kernel) (by decide) rfl ?_
  exact ac_X12_noneSeen_2 h
def wm_X12_see (a1 : Int32) (z : tq_S) (Q : tq_O → tq_S → Prop) : Prop := vp_in a1 64 ∧ ∀ z1 : tq_S, z1 = tq_sai z 61 (upd (tq_ai z 61) (Int32.toNatClampNeg a1) (vp_nar .boolean (1 : Int32))) → vp_in (tq_fi z1 3282) 64 ∧ ∀ z2 : tq_S, z2 = tq_sai z1 62 (upd (tq_ai z1 62) (Int32.toNatClampNeg (tq_fi z1 3282)) a1) → ∀ z3 : tq_S, z3 = tq_sfi z2 3282 ((tq_fi z2 3282) + (1 : Int32)) → Q (.inl none) z3
theorem am_X12_see {K : Nat × (Nat → Int32)} {x : Nat} {z : tq_S} {Q : tq_O → tq_S → Prop} {a1 : Int32} (h : wm_X12_see a1 z Q) : tq_M K 0 x mm_X12_see [.ref 51, .int a1] z Q := by
  unfold wm_X12_see at h
  refine tq_enter (L := [.ref 51, .int a1]) mf_X12_see.1 rfl rfl (Nat.le_of_ble_eq_true rfl) ?_
  refine tq_s_aload_n (kk := 0) (by decide +kernel) rfl ?_
  refine fg_12_46_51 rfl (by decide +kernel) ?_
  refine tq_s_iload_n (kk := 1) (by decide +kernel) rfl ?_
  refine tq_k_ic (n := 1) (v := (1 : Int32)) (by decide +kernel) kc_1 ?_
  refine tq_g_zast (by decide +kernel) sh_61 h.1 (fun z1 ez1 => ?_)
  replace h := h.2 z1 ez1
  refine tq_s_aload_n (kk := 0) (by decide +kernel) rfl ?_
  refine fg_12_49_51 rfl (by decide +kernel) ?_
  refine tq_s_aload_n (kk := 0) (by decide +kernel) rfl ?_
  refine fg_12_171_51 rfl (by decide +kernel) ?_
  refine tq_s_iload_n (kk := 1) (by decide +kernel) rfl ?_
  refine tq_g_iast (by decide +kernel) sh_62 h.1 (fun z2 ez2 => ?_)
  replace h := h.2 z2 ez2
  refine tq_s_aload_n (kk := 0) (by decide +kernel) rfl ?_
  refine tq_s_dup (by decide +kernel) rfl ?_
  refine fg_12_171_51 rfl (by decide +kernel) ?_
  refine tq_k_ic (n := 1) (v := (1 : Int32)) (by decide +kernel) kc_1 ?_
  refine tq_s_iadd (by decide +kernel) ?_
  refine fp_12_171_51 rfl (by decide +kernel) (fun z3 ez3 => ?_)
  replace h := h z3 ez3
  exact tq_ret_v (st := []) (by decide +kernel) rfl h
def wc_X12_partsOf_110 (B8 : Int32 → Int32 → tq_S → Prop) (B47 : Int32 → tq_S → Prop) (B58 : Int32 → tq_S → Prop) (Q : tq_O → tq_S → Prop) (a1 : Int32) (a2 : Int32) (a3 : Int32) (a4 : Int32) (z : tq_S) : Prop := ∀ v101 : Int32, v101 = a4 + (1 : Int32) → B58 v101 z
theorem ac_X12_partsOf_110 {K : Nat × (Nat → Int32)} {x : Nat} {Q : tq_O → tq_S → Prop} {B8 : Int32 → Int32 → tq_S → Prop} {B47 : Int32 → tq_S → Prop} {B58 : Int32 → tq_S → Prop} {a1 : Int32} {a2 : Int32} {a3 : Int32} {a4 : Int32} {z : tq_S} (hB8 : ∀ (b1 : Int32) (b2 : Int32) (z : tq_S), B8 b1 b2 z → tq_T K 2 x mm_X12_partsOf 8 [.ref 51, .int b1, .int b2, .null, .null, .null] [] z Q) (hB47 : ∀ (b3 : Int32) (z : tq_S), B47 b3 z → tq_T K 2 x mm_X12_partsOf 47 [.ref 51, .int a1, .int a2, .int b3, .null, .null] [] z Q) (hB58 : ∀ (b4 : Int32) (z : tq_S), B58 b4 z → tq_T K 2 x mm_X12_partsOf 58 [.ref 51, .int a1, .int a2, .int a3, .int b4, .null] [] z Q) (h : wc_X12_partsOf_110 B8 B47 B58 Q a1 a2 a3 a4 z) : tq_T K 2 x mm_X12_partsOf 110 [.ref 51, .int a1, .int a2, .int a3, .int a4, .null] [] z Q := by
  unfold wc_X12_partsOf_110 at h
  refine tq_g_iinc (i := 4) (fun v101 => [.ref 51, .int a1, .int a2, .int a3, .int v101, .null]) (by decide +kernel) rfl (1 : Int32) kc_1 (fun _ => rfl) (fun v101 ev101 => ?_)
  replace h := h v101 ev101
  refine tq_s_goto (off := -55) (tgt := 58) (by decide +kernel) (by decide +kernel) ?_
  exact hB58 _ _ h
def wc_X12_partsOf_116 (B8 : Int32 → Int32 → tq_S → Prop) (B47 : Int32 → tq_S → Prop) (Q : tq_O → tq_S → Prop) (a1 : Int32) (a2 : Int32) (a3 : Int32) (z : tq_S) : Prop := ∀ v101 : Int32, v101 = a3 + (1 : Int32) → B47 v101 z
theorem ac_X12_partsOf_116 {K : Nat × (Nat → Int32)} {x : Nat} {Q : tq_O → tq_S → Prop} {B8 : Int32 → Int32 → tq_S → Prop} {B47 : Int32 → tq_S → Prop} {a1 : Int32} {a2 : Int32} {a3 : Int32} {z : tq_S} (hB8 : ∀ (b1 : Int32) (b2 : Int32) (z : tq_S), B8 b1 b2 z → tq_T K 2 x mm_X12_partsOf 8 [.ref 51, .int b1, .int b2, .null, .null, .null] [] z Q) (hB47 : ∀ (b3 : Int32) (z : tq_S), B47 b3 z → tq_T K 2 x mm_X12_partsOf 47 [.ref 51, .int a1, .int a2, .int b3, .null, .null] [] z Q) (h : wc_X12_partsOf_116 B8 B47 Q a1 a2 a3 z) : tq_T K 2 x mm_X12_partsOf 116 [.ref 51, .int a1, .int a2, .int a3, .null, .null] [] z Q := by
  unfold wc_X12_partsOf_116 at h
  refine tq_g_iinc (i := 3) (fun v101 => [.ref 51, .int a1, .int a2, .int v101, .null, .null]) (by decide +kernel) rfl (1 : Int32) kc_1 (fun _ => rfl) (fun v101 ev101 => ?_)
  replace h := h v101 ev101
  refine tq_s_goto (off := -72) (tgt := 47) (by decide +kernel) (by decide +kernel) ?_
  exact hB47 _ _ h
def wb_X12_partsOf_58 (B8 : Int32 → Int32 → tq_S → Prop) (B47 : Int32 → tq_S → Prop) (B58 : Int32 → tq_S → Prop) (Q : tq_O → tq_S → Prop) (a1 : Int32) (a2 : Int32) (a3 : Int32) (a4 : Int32) (z : tq_S) : Prop := (((4 : Int32) ≤ a4 → wc_X12_partsOf_116 B8 B47 Q a1 a2 a3 z) ∧ (¬ (4 : Int32) ≤ a4 → vp_in a3 64 ∧ wm_X12_beside (tq_ai z 62 (Int32.toNatClampNeg a3)) a4 z (tq_wi fun r102 z101 => ((r102 = (-1 : Int32) → wc_X12_partsOf_110 B8 B47 B58 Q a1 a2 a3 a4 z101) ∧ (¬ r102 = (-1 : Int32) → vp_in r102 64 ∧ (((tq_ai z101 52 (Int32.toNatClampNeg r102)) = 0 → wc_X12_partsOf_110 B8 B47 B58 Q a1 a2 a3 a4 z101) ∧ (¬ (tq_ai z101 52 (Int32.toNatClampNeg r102)) = 0 → vp_in r102 64 ∧ ((¬ (tq_ai z101 61 (Int32.toNatClampNeg r102)) = 0 → wc_X12_partsOf_110 B8 B47 B58 Q a1 a2 a3 a4 z101) ∧ ((tq_ai z101 61 (Int32.toNatClampNeg r102)) = 0 → wm_X12_see r102 z101 (tq_wv fun z103 => wc_X12_partsOf_110 B8 B47 B58 Q a1 a2 a3 a4 z103))))))))))
def wc_X12_partsOf_58 (B8 : Int32 → Int32 → tq_S → Prop) (B47 : Int32 → tq_S → Prop) (Q : tq_O → tq_S → Prop) (a1 : Int32) (a2 : Int32) (a3 : Int32) (a4 : Int32) (z : tq_S) : Prop := tq_lp (σ := Int32 × tq_S) (fun B s => wb_X12_partsOf_58 B8 B47 (fun b4 z => B (b4, z)) Q a1 a2 a3 s.1 s.2) (a4, z)
theorem ab_X12_partsOf_58 {K : Nat × (Nat → Int32)} {x : Nat} {Q : tq_O → tq_S → Prop} {B8 : Int32 → Int32 → tq_S → Prop} {B47 : Int32 → tq_S → Prop} {B58 : Int32 → tq_S → Prop} {a1 : Int32} {a2 : Int32} {a3 : Int32} {a4 : Int32} {z : tq_S} (hB8 : ∀ (b1 : Int32) (b2 : Int32) (z : tq_S), B8 b1 b2 z → tq_T K 2 x mm_X12_partsOf 8 [.ref 51, .int b1, .int b2, .null, .null, .null] [] z Q) (hB47 : ∀ (b3 : Int32) (z : tq_S), B47 b3 z → tq_T K 2 x mm_X12_partsOf 47 [.ref 51, .int a1, .int a2, .int b3, .null, .null] [] z Q) (hB58 : ∀ (b4 : Int32) (z : tq_S), B58 b4 z → tq_T K 2 x mm_X12_partsOf 58 [.ref 51, .int a1, .int a2, .int a3, .int b4, .null] [] z Q) (h : wb_X12_partsOf_58 B8 B47 B58 Q a1 a2 a3 a4 z) : tq_T K 2 x mm_X12_partsOf 58 [.ref 51, .int a1, .int a2, .int a3, .int a4, .null] [] z Q := by
  unfold wb_X12_partsOf_58 at h
  refine tq_s_iload (i := 4) (by decide +kernel) rfl ?_
  refine tq_k_ic (n := 4) (v := (4 : Int32)) (by decide +kernel) kc_4 ?_
  refine tq_icmp_ge (off := 55) (tgt := 116) (by decide +kernel) (by decide +kernel) (fun hc => ?_) (fun hc => ?_)
  · replace h := h.1 hc
    exact tq_to (tq_lk1 (tq_lk1 (tq_lk1 (tq_lk1 (tq_ld1 (tq_lk1 tq_l0)))))) (ac_X12_partsOf_116 hB8 hB47 h)
  · replace h := h.2 hc
    refine tq_s_aload_n (kk := 0) (by decide +kernel) rfl ?_
    refine tq_s_aload_n (kk := 0) (by decide +kernel) rfl ?_
    refine fg_12_49_51 rfl (by decide +kernel) ?_
    refine tq_s_iload_n (kk := 3) (by decide +kernel) rfl ?_
    refine tq_s_iald (by decide +kernel) sh_62 h.1 ?_
    replace h := h.2
    refine tq_s_iload (i := 4) (by decide +kernel) rfl ?_
    refine tq_callV (as := [.int (tq_ai z 62 (Int32.toNatClampNeg a3)), .int a4]) (st := []) (d1 := 1) (x1 := 0) (x2 := x) (by decide +kernel) ln_12_184 mf_X12_beside rfl sh_51 rfl (by decide) np_X12_beside rfl (Nat.le_of_ble_eq_true rfl) (by decide) (Nat.zero_add _).symm (tq_M_mono (am_X12_beside h) ?_)
    refine tq_wi_e (fun r102 z101 h => ?_)
    refine tq_s_istore (i := 5) (L9 := [.ref 51, .int a1, .int a2, .int a3, .int a4, .int r102]) (by decide +kernel) (by decide) rfl ?_
    refine tq_s_iload (i := 5) (by decide +kernel) rfl ?_
    refine tq_k_ic (n := -1) (v := (-1 : Int32)) (by decide +kernel) kc_m1 ?_
    refine tq_icmp_eq (off := 29) (tgt := 110) (by decide +kernel) (by decide +kernel) (fun hc => ?_) (fun hc => ?_)
    · replace h := h.1 hc
      exact tq_to (tq_lk1 (tq_lk1 (tq_lk1 (tq_lk1 (tq_lk1 (tq_ld1 tq_l0)))))) (ac_X12_partsOf_110 hB8 hB47 hB58 h)
    · replace h := h.2 hc
      refine tq_s_aload_n (kk := 0) (by decide +kernel) rfl ?_
      refine fg_12_16_51 rfl (by decide +kernel) ?_
      refine tq_s_iload (i := 5) (by decide +kernel) rfl ?_
      refine tq_s_zald (by decide +kernel) sh_52 h.1 ?_
      replace h := h.2
      refine tq_if_eq (off := 19) (tgt := 110) (by decide +kernel) (by decide +kernel) (fun hc => ?_) (fun hc => ?_)
      · replace h := h.1 hc
        exact tq_to (tq_lk1 (tq_lk1 (tq_lk1 (tq_lk1 (tq_lk1 (tq_ld1 tq_l0)))))) (ac_X12_partsOf_110 hB8 hB47 hB58 h)
      · replace h := h.2 hc
        refine tq_s_aload_n (kk := 0) (by decide +kernel) rfl ?_
        refine fg_12_46_51 rfl (by decide +kernel) ?_
        refine tq_s_iload (i := 5) (by decide +kernel) rfl ?_
        refine tq_s_zald (by decide +kernel) sh_61 h.1 ?_
        replace h := h.2
        refine tq_if_ne (off := 9) (tgt := 110) (by decide +kernel) (by decide +kernel) (fun hc => ?_) (fun hc => ?_)
        · replace h := h.1 hc
          exact tq_to (tq_lk1 (tq_lk1 (tq_lk1 (tq_lk1 (tq_lk1 (tq_ld1 tq_l0)))))) (ac_X12_partsOf_110 hB8 hB47 hB58 h)
        · replace h := h.2 hc
          refine tq_s_aload_n (kk := 0) (by decide +kernel) rfl ?_
          refine tq_s_iload (i := 5) (by decide +kernel) rfl ?_
          refine tq_callV (as := [.int r102]) (st := []) (d1 := 0) (x1 := 0) (x2 := x) (by decide +kernel) ln_12_180 mf_X12_see rfl sh_51 rfl (by decide) np_X12_see rfl (Nat.le_of_ble_eq_true rfl) (by decide) (Nat.zero_add _).symm (tq_M_mono (am_X12_see h) ?_)
          refine tq_wv_e (fun z103 h => ?_)
          exact tq_to (tq_lk1 (tq_lk1 (tq_lk1 (tq_lk1 (tq_lk1 (tq_ld1 tq_l0)))))) (ac_X12_partsOf_110 hB8 hB47 hB58 h)
theorem ac_X12_partsOf_58 {K : Nat × (Nat → Int32)} {x : Nat} {Q : tq_O → tq_S → Prop} {B8 : Int32 → Int32 → tq_S → Prop} {B47 : Int32 → tq_S → Prop} {a1 : Int32} {a2 : Int32} {a3 : Int32} {a4 : Int32} {z : tq_S} (hB8 : ∀ (b1 : Int32) (b2 : Int32) (z : tq_S), B8 b1 b2 z → tq_T K 2 x mm_X12_partsOf 8 [.ref 51, .int b1, .int b2, .null, .null, .null] [] z Q) (hB47 : ∀ (b3 : Int32) (z : tq_S), B47 b3 z → tq_T K 2 x mm_X12_partsOf 47 [.ref 51, .int a1, .int a2, .int b3, .null, .null] [] z Q) (h : wc_X12_partsOf_58 B8 B47 Q a1 a2 a3 a4 z) : tq_T K 2 x mm_X12_partsOf 58 [.ref 51, .int a1, .int a2, .int a3, .int a4, .null] [] z Q :=
  tq_lp_T (σ := Int32 × tq_S) (s := (a4, z)) (G := fun s => tq_T K 2 x mm_X12_partsOf 58 [.ref 51, .int a1, .int a2, .int a3, .int s.1, .null] [] s.2 Q) (fun B hB s h => ab_X12_partsOf_58 hB8 hB47 (fun b4 z h => hB (b4, z) h) h) h
def wc_X12_partsOf_122 (B8 : Int32 → Int32 → tq_S → Prop) (Q : tq_O → tq_S → Prop) (a1 : Int32) (a2 : Int32) (z : tq_S) : Prop := ∀ v101 : Int32, v101 = a2 + (1 : Int32) → B8 a1 v101 z
theorem ac_X12_partsOf_122 {K : Nat × (Nat → Int32)} {x : Nat} {Q : tq_O → tq_S → Prop} {B8 : Int32 → Int32 → tq_S → Prop} {a1 : Int32} {a2 : Int32} {z : tq_S} (hB8 : ∀ (b1 : Int32) (b2 : Int32) (z : tq_S), B8 b1 b2 z → tq_T K 2 x mm_X12_partsOf 8 [.ref 51, .int b1, .int b2, .null, .null, .null] [] z Q) (h : wc_X12_partsOf_122 B8 Q a1 a2 z) : tq_T K 2 x mm_X12_partsOf 122 [.ref 51, .int a1, .int a2, .null, .null, .null] [] z Q := by
  unfold wc_X12_partsOf_122 at h
  refine tq_g_iinc (i := 2) (fun v101 => [.ref 51, .int a1, .int v101, .null, .null, .null]) (by decide +kernel) rfl (1 : Int32) kc_1 (fun _ => rfl) (fun v101 ev101 => ?_)
  replace h := h v101 ev101
  refine tq_s_goto (off := -117) (tgt := 8) (by decide +kernel) (by decide +kernel) ?_
  exact hB8 _ _ _ h
def wb_X12_partsOf_47 (B8 : Int32 → Int32 → tq_S → Prop) (B47 : Int32 → tq_S → Prop) (Q : tq_O → tq_S → Prop) (a1 : Int32) (a2 : Int32) (a3 : Int32) (z : tq_S) : Prop := (((tq_fi z 3282) ≤ a3 → wc_X12_partsOf_122 B8 Q a1 a2 z) ∧ (¬ (tq_fi z 3282) ≤ a3 → wc_X12_partsOf_58 B8 B47 Q a1 a2 a3 (0 : Int32) z))
def wc_X12_partsOf_47 (B8 : Int32 → Int32 → tq_S → Prop) (Q : tq_O → tq_S → Prop) (a1 : Int32) (a2 : Int32) (a3 : Int32) (z : tq_S) : Prop := tq_lp (σ := Int32 × tq_S) (fun B s => wb_X12_partsOf_47 B8 (fun b3 z => B (b3, z)) Q a1 a2 s.1 s.2) (a3, z)
theorem ab_X12_partsOf_47 {K : Nat × (Nat → Int32)} {x : Nat} {Q : tq_O → tq_S → Prop} {B8 : Int32 → Int32 → tq_S → Prop} {B47 : Int32 → tq_S → Prop} {a1 : Int32} {a2 : Int32} {a3 : Int32} {z : tq_S} (hB8 : ∀ (b1 : Int32) (b2 : Int32) (z : tq_S), B8 b1 b2 z → tq_T K 2 x mm_X12_partsOf 8 [.ref 51, .int b1, .int b2, .null, .null, .null] [] z Q) (hB47 : ∀ (b3 : Int32) (z : tq_S), B47 b3 z → tq_T K 2 x mm_X12_partsOf 47 [.ref 51, .int a1, .int a2, .int b3, .null, .null] [] z Q) (h : wb_X12_partsOf_47 B8 B47 Q a1 a2 a3 z) : tq_T K 2 x mm_X12_partsOf 47 [.ref 51, .int a1, .int a2, .int a3, .null, .null] [] z Q := by
  unfold wb_X12_partsOf_47 at h
  refine tq_s_iload_n (kk := 3) (by decide +kernel) rfl ?_
  refine tq_s_aload_n (kk := 0) (by decide +kernel) rfl ?_
  refine fg_12_171_51 rfl (by decide +kernel) ?_
  refine tq_icmp_ge (off := 70) (tgt := 122) (by decide +kernel) (by decide +kernel) (fun hc => ?_) (fun hc => ?_)
  · replace h := h.1 hc
    exact tq_to (tq_lk1 (tq_lk1 (tq_lk1 (tq_ld1 (tq_lk1 (tq_lk1 tq_l0)))))) (ac_X12_partsOf_122 hB8 h)
  · replace h := h.2 hc
    refine tq_k_ic (n := 0) (v := (0 : Int32)) (by decide +kernel) kc_0 ?_
    refine tq_s_istore (i := 4) (L9 := [.ref 51, .int a1, .int a2, .int a3, .int (0 : Int32), .null]) (by decide +kernel) (by decide) rfl ?_
    exact ac_X12_partsOf_58 hB8 hB47 h
theorem ac_X12_partsOf_47 {K : Nat × (Nat → Int32)} {x : Nat} {Q : tq_O → tq_S → Prop} {B8 : Int32 → Int32 → tq_S → Prop} {a1 : Int32} {a2 : Int32} {a3 : Int32} {z : tq_S} (hB8 : ∀ (b1 : Int32) (b2 : Int32) (z : tq_S), B8 b1 b2 z → tq_T K 2 x mm_X12_partsOf 8 [.ref 51, .int b1, .int b2, .null, .null, .null] [] z Q) (h : wc_X12_partsOf_47 B8 Q a1 a2 a3 z) : tq_T K 2 x mm_X12_partsOf 47 [.ref 51, .int a1, .int a2, .int a3, .null, .null] [] z Q :=
  tq_lp_T (σ := Int32 × tq_S) (s := (a3, z)) (G := fun s => tq_T K 2 x mm_X12_partsOf 47 [.ref 51, .int a1, .int a2, .int s.1, .null, .null] [] s.2 Q) (fun B hB s h => ab_X12_partsOf_47 hB8 (fun b3 z h => hB (b3, z) h) h) h
def wb_X12_partsOf_8 (B8 : Int32 → Int32 → tq_S → Prop) (Q : tq_O → tq_S → Prop) (a1 : Int32) (a2 : Int32) (z : tq_S) : Prop := (((64 : Int32) ≤ a2 → Q (.inl (some (.int a1))) z) ∧ (¬ (64 : Int32) ≤ a2 → vp_in a2 64 ∧ (((tq_ai z 52 (Int32.toNatClampNeg a2)) = 0 → wc_X12_partsOf_122 B8 Q a1 a2 z) ∧ (¬ (tq_ai z 52 (Int32.toNatClampNeg a2)) = 0 → vp_in a2 64 ∧ ((¬ (tq_ai z 61 (Int32.toNatClampNeg a2)) = 0 → wc_X12_partsOf_122 B8 Q a1 a2 z) ∧ ((tq_ai z 61 (Int32.toNatClampNeg a2)) = 0 → ∀ v101 : Int32, v101 = a1 + (1 : Int32) → ∀ z102 : tq_S, z102 = tq_sfi z 3282 (0 : Int32) → wm_X12_see a2 z102 (tq_wv fun z103 => wc_X12_partsOf_47 B8 Q v101 a2 (0 : Int32) z103)))))))
def wc_X12_partsOf_8 (Q : tq_O → tq_S → Prop) (a1 : Int32) (a2 : Int32) (z : tq_S) : Prop := tq_lp (σ := Int32 × Int32 × tq_S) (fun B s => wb_X12_partsOf_8 (fun b1 b2 z => B (b1, b2, z)) Q s.1 s.2.1 s.2.2) (a1, a2, z)
theorem ab_X12_partsOf_8 {K : Nat × (Nat → Int32)} {x : Nat} {Q : tq_O → tq_S → Prop} {B8 : Int32 → Int32 → tq_S → Prop} {a1 : Int32} {a2 : Int32} {z : tq_S} (hB8 : ∀ (b1 : Int32) (b2 : Int32) (z : tq_S), B8 b1 b2 z → tq_T K 2 x mm_X12_partsOf 8 [.ref 51, .int b1, .int b2, .null, .null, .null] [] z Q) (h : wb_X12_partsOf_8 B8 Q a1 a2 z) : tq_T K 2 x mm_X12_partsOf 8 [.ref 51, .int a1, .int a2, .null, .null, .null] [] z Q := by
  unfold wb_X12_partsOf_8 at h
  refine tq_s_iload_n (kk := 2) (by decide +kernel) rfl ?_
  refine tq_k_bi (n := 64) (v := (64 : Int32)) (by decide +kernel) kb_64 ?_
  refine tq_icmp_ge (off := 117) (tgt := 128) (by decide +kernel) (by decide +kernel) (fun hc => ?_) (fun hc => ?_)
  · replace h := h.1 hc
    refine tq_s_iload_n (kk := 1) (by decide +kernel) rfl ?_
    exact tq_ret_i (st := []) (by decide +kernel) rfl h
  · replace h := h.2 hc
    refine tq_s_aload_n (kk := 0) (by decide +kernel) rfl ?_
    refine fg_12_16_51 rfl (by decide +kernel) ?_
    refine tq_s_iload_n (kk := 2) (by decide +kernel) rfl ?_
    refine tq_s_zald (by decide +kernel) sh_52 h.1 ?_
    replace h := h.2
    refine tq_if_eq (off := 102) (tgt := 122) (by decide +kernel) (by decide +kernel) (fun hc => ?_) (fun hc => ?_)
    · replace h := h.1 hc
      exact ac_X12_partsOf_122 hB8 h
    · replace h := h.2 hc
      refine tq_s_aload_n (kk := 0) (by decide +kernel) rfl ?_
      refine fg_12_46_51 rfl (by decide +kernel) ?_
      refine tq_s_iload_n (kk := 2) (by decide +kernel) rfl ?_
      refine tq_s_zald (by decide +kernel) sh_61 h.1 ?_
      replace h := h.2
      refine tq_if_ne (off := 93) (tgt := 122) (by decide +kernel) (by decide +kernel) (fun hc => ?_) (fun hc => ?_)
      · replace h := h.1 hc
        exact ac_X12_partsOf_122 hB8 h
      · replace h := h.2 hc
        refine tq_g_iinc (i := 1) (fun v101 => [.ref 51, .int v101, .int a2, .null, .null, .null]) (by decide +kernel) rfl (1 : Int32) kc_1 (fun _ => rfl) (fun v101 ev101 => ?_)
        replace h := h v101 ev101
        refine tq_s_aload_n (kk := 0) (by decide +kernel) rfl ?_
        refine tq_k_ic (n := 0) (v := (0 : Int32)) (by decide +kernel) kc_0 ?_
        refine fp_12_171_51 rfl (by decide +kernel) (fun z102 ez102 => ?_)
        replace h := h z102 ez102
        refine tq_s_aload_n (kk := 0) (by decide +kernel) rfl ?_
        refine tq_s_iload_n (kk := 2) (by decide +kernel) rfl ?_
        refine tq_callV (as := [.int a2]) (st := []) (d1 := 0) (x1 := 0) (x2 := x) (by decide +kernel) ln_12_180 mf_X12_see rfl sh_51 rfl (by decide) np_X12_see rfl (Nat.le_of_ble_eq_true rfl) (by decide) (Nat.zero_add _).symm (tq_M_mono (am_X12_see h) ?_)
        refine tq_wv_e (fun z103 h => ?_)
        refine tq_k_ic (n := 0) (v := (0 : Int32)) (by decide +kernel) kc_0 ?_
        refine tq_s_istore_n (kk := 3) (L9 := [.ref 51, .int v101, .int a2, .int (0 : Int32), .null, .null]) (by decide +kernel) (by decide) rfl ?_
        exact ac_X12_partsOf_47 hB8 h
theorem ac_X12_partsOf_8 {K : Nat × (Nat → Int32)} {x : Nat} {Q : tq_O → tq_S → Prop} {a1 : Int32} {a2 : Int32} {z : tq_S} (h : wc_X12_partsOf_8 Q a1 a2 z) : tq_T K 2 x mm_X12_partsOf 8 [.ref 51, .int a1, .int a2, .null, .null, .null] [] z Q :=
  tq_lp_T (σ := Int32 × Int32 × tq_S) (s := (a1, a2, z)) (G := fun s => tq_T K 2 x mm_X12_partsOf 8 [.ref 51, .int s.1, .int s.2.1, .null, .null, .null] [] s.2.2 Q) (fun B hB s h => ab_X12_partsOf_8 (fun b1 b2 z h => hB (b1, b2, z) h) h) h
def wm_X12_partsOf  (z : tq_S) (Q : tq_O → tq_S → Prop) : Prop := wm_X12_noneSeen z (tq_wv fun z1 => wc_X12_partsOf_8 Q (0 : Int32) (0 : Int32) z1)
theorem am_X12_partsOf {K : Nat × (Nat → Int32)} {x : Nat} {z : tq_S} {Q : tq_O → tq_S → Prop}  (h : wm_X12_partsOf z Q) : tq_M K 2 x mm_X12_partsOf [.ref 51] z Q := by
  unfold wm_X12_partsOf at h
  refine tq_enter (L := [.ref 51, .null, .null, .null, .null, .null]) mf_X12_partsOf.1 rfl rfl (Nat.le_of_ble_eq_true rfl) ?_
  refine tq_s_aload_n (kk := 0) (by decide +kernel) rfl ?_
  refine tq_callV (as := []) (st := []) (d1 := 0) (x1 := 0) (x2 := x) (by decide +kernel) ln_12_177 mf_X12_noneSeen rfl sh_51 rfl (by decide) np_X12_noneSeen rfl (Nat.le_of_ble_eq_true rfl) (by decide) (Nat.zero_add _).symm (tq_M_mono (am_X12_noneSeen h) ?_)
  refine tq_wv_e (fun z1 h => ?_)
  refine tq_k_ic (n := 0) (v := (0 : Int32)) (by decide +kernel) kc_0 ?_
  refine tq_s_istore_n (kk := 1) (L9 := [.ref 51, .int (0 : Int32), .null, .null, .null, .null]) (by decide +kernel) (by decide) rfl ?_
  refine tq_k_ic (n := 0) (v := (0 : Int32)) (by decide +kernel) kc_0 ?_
  refine tq_s_istore_n (kk := 2) (L9 := [.ref 51, .int (0 : Int32), .int (0 : Int32), .null, .null, .null]) (by decide +kernel) (by decide) rfl ?_
  exact ac_X12_partsOf_8 h
def wm_X12_parts  (z : tq_S) (Q : tq_O → tq_S → Prop) : Prop := ∀ z1 : tq_S, z1 = tq_sfi z 3264 (0 : Int32) → wm_X12_partsOf z1 (tq_wi fun r3 z2 => Q (.inl (some (.int r3))) z2)
theorem am_X12_parts {K : Nat × (Nat → Int32)} {x : Nat} {z : tq_S} {Q : tq_O → tq_S → Prop}  (h : wm_X12_parts z Q) : tq_M K 3 x mm_X12_parts [.ref 51] z Q := by
  unfold wm_X12_parts at h
  refine tq_enter (L := [.ref 51]) mf_X12_parts.1 rfl rfl (Nat.le_of_ble_eq_true rfl) ?_
  refine tq_s_aload_n (kk := 0) (by decide +kernel) rfl ?_
  refine tq_k_ic (n := 0) (v := (0 : Int32)) (by decide +kernel) kc_0 ?_
  refine fp_12_129_51 rfl (by decide +kernel) (fun z1 ez1 => ?_)
  replace h := h z1 ez1
  refine tq_s_aload_n (kk := 0) (by decide +kernel) rfl ?_
  refine tq_callV (as := []) (st := []) (d1 := 2) (x1 := 0) (x2 := x) (by decide +kernel) ln_12_174 mf_X12_partsOf rfl sh_51 rfl (by decide) np_X12_partsOf rfl (Nat.le_of_ble_eq_true rfl) (by decide) (Nat.zero_add _).symm (tq_M_mono (am_X12_partsOf h) ?_)
  refine tq_wi_e (fun r3 z2 h => ?_)
  exact tq_ret_i (st := []) (by decide +kernel) rfl h
def wc_X12_isWithin_91 (B14 : Int32 → Int32 → tq_S → Prop) (B25 : Int32 → Int32 → tq_S → Prop) (Q : tq_O → tq_S → Prop) (a2 : Int32) (a3 : Int32) (a4 : Int32) (z : tq_S) : Prop := ∀ v101 : Int32, v101 = a4 + (1 : Int32) → B25 a2 v101 z
theorem ac_X12_isWithin_91 {K : Nat × (Nat → Int32)} {x : Nat} {Q : tq_O → tq_S → Prop} {B14 : Int32 → Int32 → tq_S → Prop} {B25 : Int32 → Int32 → tq_S → Prop} {a2 : Int32} {a3 : Int32} {a4 : Int32} {z : tq_S} (hB14 : ∀ (b2 : Int32) (b3 : Int32) (z : tq_S), B14 b2 b3 z → tq_T K 2 x mm_X12_isWithin 14 [.ref 51, .null, .int b2, .int b3, .null, .null] [] z Q) (hB25 : ∀ (b2 : Int32) (b4 : Int32) (z : tq_S), B25 b2 b4 z → tq_T K 2 x mm_X12_isWithin 25 [.ref 51, .null, .int b2, .int a3, .int b4, .null] [] z Q) (h : wc_X12_isWithin_91 B14 B25 Q a2 a3 a4 z) : tq_T K 2 x mm_X12_isWithin 91 [.ref 51, .null, .int a2, .int a3, .int a4, .null] [] z Q := by
  unfold wc_X12_isWithin_91 at h
  refine tq_g_iinc (i := 4) (fun v101 => [.ref 51, .null, .int a2, .int a3, .int v101, .null]) (by decide +kernel) rfl (1 : Int32) kc_1 (fun _ => rfl) (fun v101 ev101 => ?_)
  replace h := h v101 ev101
  refine tq_s_goto (off := -69) (tgt := 25) (by decide +kernel) (by decide +kernel) ?_
  exact hB25 _ _ _ h
def wc_X12_isWithin_57 (B14 : Int32 → Int32 → tq_S → Prop) (B25 : Int32 → Int32 → tq_S → Prop) (Q : tq_O → tq_S → Prop) (a3 : Int32) (a4 : Int32) (a5 : Int32) (s0 : Int32) (s1 : Int32) (z : tq_S) : Prop := ∀ v101 : Int32, v101 = (s1 &&& s0) → ((a5 = (-1 : Int32) → wc_X12_isWithin_91 B14 B25 Q v101 a3 a4 z) ∧ (¬ a5 = (-1 : Int32) → vp_in a5 64 ∧ ((¬ (tq_ai z 52 (Int32.toNatClampNeg a5)) = 0 → wc_X12_isWithin_91 B14 B25 Q v101 a3 a4 z) ∧ ((tq_ai z 52 (Int32.toNatClampNeg a5)) = 0 → vp_in a5 64 ∧ ((¬ (tq_ai z 61 (Int32.toNatClampNeg a5)) = 0 → wc_X12_isWithin_91 B14 B25 Q v101 a3 a4 z) ∧ ((tq_ai z 61 (Int32.toNatClampNeg a5)) = 0 → wm_X12_see a5 z (tq_wv fun z102 => wc_X12_isWithin_91 B14 B25 Q v101 a3 a4 z102)))))))
theorem ac_X12_isWithin_57 {K : Nat × (Nat → Int32)} {x : Nat} {Q : tq_O → tq_S → Prop} {B14 : Int32 → Int32 → tq_S → Prop} {B25 : Int32 → Int32 → tq_S → Prop} {a3 : Int32} {a4 : Int32} {a5 : Int32} {s0 : Int32} {s1 : Int32} {z : tq_S} (hB14 : ∀ (b2 : Int32) (b3 : Int32) (z : tq_S), B14 b2 b3 z → tq_T K 2 x mm_X12_isWithin 14 [.ref 51, .null, .int b2, .int b3, .null, .null] [] z Q) (hB25 : ∀ (b2 : Int32) (b4 : Int32) (z : tq_S), B25 b2 b4 z → tq_T K 2 x mm_X12_isWithin 25 [.ref 51, .null, .int b2, .int a3, .int b4, .null] [] z Q) (h : wc_X12_isWithin_57 B14 B25 Q a3 a4 a5 s0 s1 z) : tq_T K 2 x mm_X12_isWithin 57 [.ref 51, .null, .null, .int a3, .int a4, .int a5] [.int s0, .int s1] z Q := by
  unfold wc_X12_isWithin_57 at h
  refine tq_s_iand (by decide +kernel) ?_
  refine tq_g_istore_n (kk := 2) (fun v101 => [.ref 51, .null, .int v101, .int a3, .int a4, .int a5]) (by decide +kernel) (by decide) (fun _ => rfl) (fun v101 ev101 => ?_)
  replace h := h v101 ev101
  refine tq_s_iload (i := 5) (by decide +kernel) rfl ?_
  refine tq_k_ic (n := -1) (v := (-1 : Int32)) (by decide +kernel) kc_m1 ?_
  refine tq_icmp_eq (off := 29) (tgt := 91) (by decide +kernel) (by decide +kernel) (fun hc => ?_) (fun hc => ?_)
  · replace h := h.1 hc
    exact tq_to (tq_lk1 (tq_lk1 (tq_lk1 (tq_lk1 (tq_lk1 (tq_ld1 tq_l0)))))) (ac_X12_isWithin_91 hB14 hB25 h)
  · replace h := h.2 hc
    refine tq_s_aload_n (kk := 0) (by decide +kernel) rfl ?_
    refine fg_12_16_51 rfl (by decide +kernel) ?_
    refine tq_s_iload (i := 5) (by decide +kernel) rfl ?_
    refine tq_s_zald (by decide +kernel) sh_52 h.1 ?_
    replace h := h.2
    refine tq_if_ne (off := 19) (tgt := 91) (by decide +kernel) (by decide +kernel) (fun hc => ?_) (fun hc => ?_)
    · replace h := h.1 hc
      exact tq_to (tq_lk1 (tq_lk1 (tq_lk1 (tq_lk1 (tq_lk1 (tq_ld1 tq_l0)))))) (ac_X12_isWithin_91 hB14 hB25 h)
    · replace h := h.2 hc
      refine tq_s_aload_n (kk := 0) (by decide +kernel) rfl ?_
      refine fg_12_46_51 rfl (by decide +kernel) ?_
      refine tq_s_iload (i := 5) (by decide +kernel) rfl ?_
      refine tq_s_zald (by decide +kernel) sh_61 h.1 ?_
      replace h := h.2
      refine tq_if_ne (off := 9) (tgt := 91) (by decide +kernel) (by decide +kernel) (fun hc => ?_) (fun hc => ?_)
      · replace h := h.1 hc
        exact tq_to (tq_lk1 (tq_lk1 (tq_lk1 (tq_lk1 (tq_lk1 (tq_ld1 tq_l0)))))) (ac_X12_isWithin_91 hB14 hB25 h)
      · replace h := h.2 hc
        refine tq_s_aload_n (kk := 0) (by decide +kernel) rfl ?_
        refine tq_s_iload (i := 5) (by decide +kernel) rfl ?_
        refine tq_callV (as := [.int a5]) (st := []) (d1 := 0) (x1 := 0) (x2 := x) (by decide +kernel) ln_12_180 mf_X12_see rfl sh_51 rfl (by decide) np_X12_see rfl (Nat.le_of_ble_eq_true rfl) (by decide) (Nat.zero_add _).symm (tq_M_mono (am_X12_see h) ?_)
        refine tq_wv_e (fun z102 h => ?_)
        exact tq_to (tq_lk1 (tq_lk1 (tq_lk1 (tq_lk1 (tq_lk1 (tq_ld1 tq_l0)))))) (ac_X12_isWithin_91 hB14 hB25 h)
def wc_X12_isWithin_97 (B14 : Int32 → Int32 → tq_S → Prop) (Q : tq_O → tq_S → Prop) (a2 : Int32) (a3 : Int32) (z : tq_S) : Prop := ∀ v101 : Int32, v101 = a3 + (1 : Int32) → B14 a2 v101 z
theorem ac_X12_isWithin_97 {K : Nat × (Nat → Int32)} {x : Nat} {Q : tq_O → tq_S → Prop} {B14 : Int32 → Int32 → tq_S → Prop} {a2 : Int32} {a3 : Int32} {z : tq_S} (hB14 : ∀ (b2 : Int32) (b3 : Int32) (z : tq_S), B14 b2 b3 z → tq_T K 2 x mm_X12_isWithin 14 [.ref 51, .null, .int b2, .int b3, .null, .null] [] z Q) (h : wc_X12_isWithin_97 B14 Q a2 a3 z) : tq_T K 2 x mm_X12_isWithin 97 [.ref 51, .null, .int a2, .int a3, .null, .null] [] z Q := by
  unfold wc_X12_isWithin_97 at h
  refine tq_g_iinc (i := 3) (fun v101 => [.ref 51, .null, .int a2, .int v101, .null, .null]) (by decide +kernel) rfl (1 : Int32) kc_1 (fun _ => rfl) (fun v101 ev101 => ?_)
  replace h := h v101 ev101
  refine tq_s_goto (off := -86) (tgt := 14) (by decide +kernel) (by decide +kernel) ?_
  exact hB14 _ _ _ h
def wb_X12_isWithin_25 (B14 : Int32 → Int32 → tq_S → Prop) (B25 : Int32 → Int32 → tq_S → Prop) (Q : tq_O → tq_S → Prop) (a2 : Int32) (a3 : Int32) (a4 : Int32) (z : tq_S) : Prop := (((4 : Int32) ≤ a4 → wc_X12_isWithin_97 B14 Q a2 a3 z) ∧ (¬ (4 : Int32) ≤ a4 → vp_in a3 64 ∧ wm_X12_beside (tq_ai z 62 (Int32.toNatClampNeg a3)) a4 z (tq_wi fun r102 z101 => ((r102 = (-1 : Int32) → wc_X12_isWithin_57 B14 B25 Q a3 a4 r102 (0 : Int32) a2 z101) ∧ (¬ r102 = (-1 : Int32) → wc_X12_isWithin_57 B14 B25 Q a3 a4 r102 (1 : Int32) a2 z101)))))
def wc_X12_isWithin_25 (B14 : Int32 → Int32 → tq_S → Prop) (Q : tq_O → tq_S → Prop) (a2 : Int32) (a3 : Int32) (a4 : Int32) (z : tq_S) : Prop := tq_lp (σ := Int32 × Int32 × tq_S) (fun B s => wb_X12_isWithin_25 B14 (fun b2 b4 z => B (b2, b4, z)) Q s.1 a3 s.2.1 s.2.2) (a2, a4, z)
theorem ab_X12_isWithin_25 {K : Nat × (Nat → Int32)} {x : Nat} {Q : tq_O → tq_S → Prop} {B14 : Int32 → Int32 → tq_S → Prop} {B25 : Int32 → Int32 → tq_S → Prop} {a2 : Int32} {a3 : Int32} {a4 : Int32} {z : tq_S} (hB14 : ∀ (b2 : Int32) (b3 : Int32) (z : tq_S), B14 b2 b3 z → tq_T K 2 x mm_X12_isWithin 14 [.ref 51, .null, .int b2, .int b3, .null, .null] [] z Q) (hB25 : ∀ (b2 : Int32) (b4 : Int32) (z : tq_S), B25 b2 b4 z → tq_T K 2 x mm_X12_isWithin 25 [.ref 51, .null, .int b2, .int a3, .int b4, .null] [] z Q) (h : wb_X12_isWithin_25 B14 B25 Q a2 a3 a4 z) : tq_T K 2 x mm_X12_isWithin 25 [.ref 51, .null, .int a2, .int a3, .int a4, .null] [] z Q := by
  unfold wb_X12_isWithin_25 at h
  refine tq_s_iload (i := 4) (by decide +kernel) rfl ?_
  refine tq_k_ic (n := 4) (v := (4 : Int32)) (by decide +kernel) kc_4 ?_
  refine tq_icmp_ge (off := 69) (tgt := 97) (by decide +kernel) (by decide +kernel) (fun hc => ?_) (fun hc => ?_)
  · replace h := h.1 hc
    exact tq_to (tq_lk1 (tq_lk1 (tq_lk1 (tq_lk1 (tq_ld1 (tq_lk1 tq_l0)))))) (ac_X12_isWithin_97 hB14 h)
  · replace h := h.2 hc
    refine tq_s_aload_n (kk := 0) (by decide +kernel) rfl ?_
    refine tq_s_aload_n (kk := 0) (by decide +kernel) rfl ?_
    refine fg_12_49_51 rfl (by decide +kernel) ?_
    refine tq_s_iload_n (kk := 3) (by decide +kernel) rfl ?_
    refine tq_s_iald (by decide +kernel) sh_62 h.1 ?_
    replace h := h.2
    refine tq_s_iload (i := 4) (by decide +kernel) rfl ?_
    refine tq_callV (as := [.int (tq_ai z 62 (Int32.toNatClampNeg a3)), .int a4]) (st := []) (d1 := 1) (x1 := 0) (x2 := x) (by decide +kernel) ln_12_184 mf_X12_beside rfl sh_51 rfl (by decide) np_X12_beside rfl (Nat.le_of_ble_eq_true rfl) (by decide) (Nat.zero_add _).symm (tq_M_mono (am_X12_beside h) ?_)
    refine tq_wi_e (fun r102 z101 h => ?_)
    refine tq_s_istore (i := 5) (L9 := [.ref 51, .null, .int a2, .int a3, .int a4, .int r102]) (by decide +kernel) (by decide) rfl ?_
    refine tq_s_iload_n (kk := 2) (by decide +kernel) rfl ?_
    refine tq_s_iload (i := 5) (by decide +kernel) rfl ?_
    refine tq_k_ic (n := -1) (v := (-1 : Int32)) (by decide +kernel) kc_m1 ?_
    refine tq_icmp_eq (off := 7) (tgt := 56) (by decide +kernel) (by decide +kernel) (fun hc => ?_) (fun hc => ?_)
    · replace h := h.1 hc
      refine tq_k_ic (n := 0) (v := (0 : Int32)) (by decide +kernel) kc_0 ?_
      exact tq_to (tq_lk1 (tq_lk1 (tq_ld1 (tq_lk1 (tq_lk1 (tq_lk1 tq_l0)))))) (ac_X12_isWithin_57 hB14 hB25 h)
    · replace h := h.2 hc
      refine tq_k_ic (n := 1) (v := (1 : Int32)) (by decide +kernel) kc_1 ?_
      refine tq_s_goto (off := 4) (tgt := 57) (by decide +kernel) (by decide +kernel) ?_
      exact tq_to (tq_lk1 (tq_lk1 (tq_ld1 (tq_lk1 (tq_lk1 (tq_lk1 tq_l0)))))) (ac_X12_isWithin_57 hB14 hB25 h)
theorem ac_X12_isWithin_25 {K : Nat × (Nat → Int32)} {x : Nat} {Q : tq_O → tq_S → Prop} {B14 : Int32 → Int32 → tq_S → Prop} {a2 : Int32} {a3 : Int32} {a4 : Int32} {z : tq_S} (hB14 : ∀ (b2 : Int32) (b3 : Int32) (z : tq_S), B14 b2 b3 z → tq_T K 2 x mm_X12_isWithin 14 [.ref 51, .null, .int b2, .int b3, .null, .null] [] z Q) (h : wc_X12_isWithin_25 B14 Q a2 a3 a4 z) : tq_T K 2 x mm_X12_isWithin 25 [.ref 51, .null, .int a2, .int a3, .int a4, .null] [] z Q :=
  tq_lp_T (σ := Int32 × Int32 × tq_S) (s := (a2, a4, z)) (G := fun s => tq_T K 2 x mm_X12_isWithin 25 [.ref 51, .null, .int s.1, .int a3, .int s.2.1, .null] [] s.2.2 Q) (fun B hB s h => ab_X12_isWithin_25 hB14 (fun b2 b4 z h => hB (b2, b4, z) h) h) h
def wb_X12_isWithin_14 (B14 : Int32 → Int32 → tq_S → Prop) (Q : tq_O → tq_S → Prop) (a2 : Int32) (a3 : Int32) (z : tq_S) : Prop := (((tq_fi z 3282) ≤ a3 → tq_nz a2 ∧ Q (.inl (some (.int a2))) z) ∧ (¬ (tq_fi z 3282) ≤ a3 → wc_X12_isWithin_25 B14 Q a2 a3 (0 : Int32) z))
def wc_X12_isWithin_14 (Q : tq_O → tq_S → Prop) (a2 : Int32) (a3 : Int32) (z : tq_S) : Prop := tq_lp (σ := Int32 × Int32 × tq_S) (fun B s => wb_X12_isWithin_14 (fun b2 b3 z => B (b2, b3, z)) Q s.1 s.2.1 s.2.2) (a2, a3, z)
theorem ab_X12_isWithin_14 {K : Nat × (Nat → Int32)} {x : Nat} {Q : tq_O → tq_S → Prop} {B14 : Int32 → Int32 → tq_S → Prop} {a2 : Int32} {a3 : Int32} {z : tq_S} (hB14 : ∀ (b2 : Int32) (b3 : Int32) (z : tq_S), B14 b2 b3 z → tq_T K 2 x mm_X12_isWithin 14 [.ref 51, .null, .int b2, .int b3, .null, .null] [] z Q) (h : wb_X12_isWithin_14 B14 Q a2 a3 z) : tq_T K 2 x mm_X12_isWithin 14 [.ref 51, .null, .int a2, .int a3, .null, .null] [] z Q := by
  unfold wb_X12_isWithin_14 at h
  refine tq_s_iload_n (kk := 3) (by decide +kernel) rfl ?_
  refine tq_s_aload_n (kk := 0) (by decide +kernel) rfl ?_
  refine fg_12_171_51 rfl (by decide +kernel) ?_
  refine tq_icmp_ge (off := 84) (tgt := 103) (by decide +kernel) (by decide +kernel) (fun hc => ?_) (fun hc => ?_)
  · replace h := h.1 hc
    refine tq_s_iload_n (kk := 2) (by decide +kernel) rfl ?_
    exact tq_ret_z (st := []) (ty := .boolean) (by decide +kernel) (tq_nz_f h.1).1 rfl h.2
  · replace h := h.2 hc
    refine tq_k_ic (n := 0) (v := (0 : Int32)) (by decide +kernel) kc_0 ?_
    refine tq_s_istore (i := 4) (L9 := [.ref 51, .null, .int a2, .int a3, .int (0 : Int32), .null]) (by decide +kernel) (by decide) rfl ?_
    exact ac_X12_isWithin_25 hB14 h
theorem ac_X12_isWithin_14 {K : Nat × (Nat → Int32)} {x : Nat} {Q : tq_O → tq_S → Prop} {a2 : Int32} {a3 : Int32} {z : tq_S} (h : wc_X12_isWithin_14 Q a2 a3 z) : tq_T K 2 x mm_X12_isWithin 14 [.ref 51, .null, .int a2, .int a3, .null, .null] [] z Q :=
  tq_lp_T (σ := Int32 × Int32 × tq_S) (s := (a2, a3, z)) (G := fun s => tq_T K 2 x mm_X12_isWithin 14 [.ref 51, .null, .int s.1, .int s.2.1, .null, .null] [] s.2.2 Q) (fun B hB s h => ab_X12_isWithin_14 (fun b2 b3 z h => hB (b2, b3, z) h) h) h
def wm_X12_isWithin (a1 : Int32) (z : tq_S) (Q : tq_O → tq_S → Prop) : Prop := ∀ z1 : tq_S, z1 = tq_sfi z 3282 (0 : Int32) → wm_X12_see a1 z1 (tq_wv fun z2 => wc_X12_isWithin_14 Q (1 : Int32) (0 : Int32) z2)
theorem am_X12_isWithin {K : Nat × (Nat → Int32)} {x : Nat} {z : tq_S} {Q : tq_O → tq_S → Prop} {a1 : Int32} (h : wm_X12_isWithin a1 z Q) : tq_M K 2 x mm_X12_isWithin [.ref 51, .int a1] z Q := by
  unfold wm_X12_isWithin at h
  refine tq_enter (L := [.ref 51, .int a1, .null, .null, .null, .null]) mf_X12_isWithin.1 rfl rfl (Nat.le_of_ble_eq_true rfl) ?_
  refine tq_k_ic (n := 1) (v := (1 : Int32)) (by decide +kernel) kc_1 ?_
  refine tq_s_istore_n (kk := 2) (L9 := [.ref 51, .int a1, .int (1 : Int32), .null, .null, .null]) (by decide +kernel) (by decide) rfl ?_
  refine tq_s_aload_n (kk := 0) (by decide +kernel) rfl ?_
  refine tq_k_ic (n := 0) (v := (0 : Int32)) (by decide +kernel) kc_0 ?_
  refine fp_12_171_51 rfl (by decide +kernel) (fun z1 ez1 => ?_)
  replace h := h z1 ez1
  refine tq_s_aload_n (kk := 0) (by decide +kernel) rfl ?_
  refine tq_s_iload_n (kk := 1) (by decide +kernel) rfl ?_
  refine tq_callV (as := [.int a1]) (st := []) (d1 := 0) (x1 := 0) (x2 := x) (by decide +kernel) ln_12_180 mf_X12_see rfl sh_51 rfl (by decide) np_X12_see rfl (Nat.le_of_ble_eq_true rfl) (by decide) (Nat.zero_add _).symm (tq_M_mono (am_X12_see h) ?_)
  refine tq_wv_e (fun z2 h => ?_)
  refine tq_k_ic (n := 0) (v := (0 : Int32)) (by decide +kernel) kc_0 ?_
  refine tq_s_istore_n (kk := 3) (L9 := [.ref 51, .int a1, .int (1 : Int32), .int (0 : Int32), .null, .null]) (by decide +kernel) (by decide) rfl ?_
  exact tq_to (tq_lk1 (tq_ld1 (tq_lk1 (tq_lk1 (tq_lk1 (tq_lk1 tq_l0)))))) (ac_X12_isWithin_14 h)
def wc_X12_holesOf_71 (B8 : Int32 → Int32 → tq_S → Prop) (B18 : Int32 → Int32 → tq_S → Prop) (Q : tq_O → tq_S → Prop) (a1 : Int32) (a2 : Int32) (a3 : Int32) (z : tq_S) : Prop := ∀ v101 : Int32, v101 = a3 + (1 : Int32) → B18 a1 v101 z
theorem ac_X12_holesOf_71 {K : Nat × (Nat → Int32)} {x : Nat} {Q : tq_O → tq_S → Prop} {B8 : Int32 → Int32 → tq_S → Prop} {B18 : Int32 → Int32 → tq_S → Prop} {a1 : Int32} {a2 : Int32} {a3 : Int32} {z : tq_S} (hB8 : ∀ (b1 : Int32) (b2 : Int32) (z : tq_S), B8 b1 b2 z → tq_T K 3 x mm_X12_holesOf 8 [.ref 51, .int b1, .int b2, .null, .null] [] z Q) (hB18 : ∀ (b1 : Int32) (b3 : Int32) (z : tq_S), B18 b1 b3 z → tq_T K 3 x mm_X12_holesOf 18 [.ref 51, .int b1, .int a2, .int b3, .null] [] z Q) (h : wc_X12_holesOf_71 B8 B18 Q a1 a2 a3 z) : tq_T K 3 x mm_X12_holesOf 71 [.ref 51, .int a1, .int a2, .int a3, .null] [] z Q := by
  unfold wc_X12_holesOf_71 at h
  refine tq_g_iinc (i := 3) (fun v101 => [.ref 51, .int a1, .int a2, .int v101, .null]) (by decide +kernel) rfl (1 : Int32) kc_1 (fun _ => rfl) (fun v101 ev101 => ?_)
  replace h := h v101 ev101
  refine tq_s_goto (off := -56) (tgt := 18) (by decide +kernel) (by decide +kernel) ?_
  exact hB18 _ _ _ h
def wc_X12_holesOf_69 (B8 : Int32 → Int32 → tq_S → Prop) (B18 : Int32 → Int32 → tq_S → Prop) (Q : tq_O → tq_S → Prop) (a2 : Int32) (a3 : Int32) (s0 : Int32) (s1 : Int32) (z : tq_S) : Prop := ∀ v101 : Int32, v101 = (s1 + s0) → wc_X12_holesOf_71 B8 B18 Q v101 a2 a3 z
theorem ac_X12_holesOf_69 {K : Nat × (Nat → Int32)} {x : Nat} {Q : tq_O → tq_S → Prop} {B8 : Int32 → Int32 → tq_S → Prop} {B18 : Int32 → Int32 → tq_S → Prop} {a2 : Int32} {a3 : Int32} {s0 : Int32} {s1 : Int32} {z : tq_S} (hB8 : ∀ (b1 : Int32) (b2 : Int32) (z : tq_S), B8 b1 b2 z → tq_T K 3 x mm_X12_holesOf 8 [.ref 51, .int b1, .int b2, .null, .null] [] z Q) (hB18 : ∀ (b1 : Int32) (b3 : Int32) (z : tq_S), B18 b1 b3 z → tq_T K 3 x mm_X12_holesOf 18 [.ref 51, .int b1, .int a2, .int b3, .null] [] z Q) (h : wc_X12_holesOf_69 B8 B18 Q a2 a3 s0 s1 z) : tq_T K 3 x mm_X12_holesOf 69 [.ref 51, .null, .int a2, .int a3, .null] [.int s0, .int s1] z Q := by
  unfold wc_X12_holesOf_69 at h
  refine tq_s_iadd (by decide +kernel) ?_
  refine tq_g_istore_n (kk := 1) (fun v101 => [.ref 51, .int v101, .int a2, .int a3, .null]) (by decide +kernel) (by decide) (fun _ => rfl) (fun v101 ev101 => ?_)
  replace h := h v101 ev101
  exact ac_X12_holesOf_71 hB8 hB18 h
def wc_X12_holesOf_77 (B8 : Int32 → Int32 → tq_S → Prop) (Q : tq_O → tq_S → Prop) (a1 : Int32) (a2 : Int32) (z : tq_S) : Prop := ∀ v101 : Int32, v101 = a2 + (1 : Int32) → B8 a1 v101 z
theorem ac_X12_holesOf_77 {K : Nat × (Nat → Int32)} {x : Nat} {Q : tq_O → tq_S → Prop} {B8 : Int32 → Int32 → tq_S → Prop} {a1 : Int32} {a2 : Int32} {z : tq_S} (hB8 : ∀ (b1 : Int32) (b2 : Int32) (z : tq_S), B8 b1 b2 z → tq_T K 3 x mm_X12_holesOf 8 [.ref 51, .int b1, .int b2, .null, .null] [] z Q) (h : wc_X12_holesOf_77 B8 Q a1 a2 z) : tq_T K 3 x mm_X12_holesOf 77 [.ref 51, .int a1, .int a2, .null, .null] [] z Q := by
  unfold wc_X12_holesOf_77 at h
  refine tq_g_iinc (i := 2) (fun v101 => [.ref 51, .int a1, .int v101, .null, .null]) (by decide +kernel) rfl (1 : Int32) kc_1 (fun _ => rfl) (fun v101 ev101 => ?_)
  replace h := h v101 ev101
  refine tq_s_goto (off := -72) (tgt := 8) (by decide +kernel) (by decide +kernel) ?_
  exact hB8 _ _ _ h
def wb_X12_holesOf_18 (B8 : Int32 → Int32 → tq_S → Prop) (B18 : Int32 → Int32 → tq_S → Prop) (Q : tq_O → tq_S → Prop) (a1 : Int32) (a2 : Int32) (a3 : Int32) (z : tq_S) : Prop := (((tq_fi z 3265) ≤ a3 → wc_X12_holesOf_77 B8 Q a1 a2 z) ∧ (¬ (tq_fi z 3265) ≤ a3 → ∀ v101 : Int32, v101 = (((8 : Int32) * a2) + a3) → vp_in v101 64 ∧ ((¬ (tq_ai z 52 (Int32.toNatClampNeg v101)) = 0 → wc_X12_holesOf_71 B8 B18 Q a1 a2 a3 z) ∧ ((tq_ai z 52 (Int32.toNatClampNeg v101)) = 0 → vp_in v101 64 ∧ ((¬ (tq_ai z 61 (Int32.toNatClampNeg v101)) = 0 → wc_X12_holesOf_71 B8 B18 Q a1 a2 a3 z) ∧ ((tq_ai z 61 (Int32.toNatClampNeg v101)) = 0 → wm_X12_isWithin v101 z (tq_wi fun r103 z102 => ((r103 = 0 → wc_X12_holesOf_69 B8 B18 Q a2 a3 (0 : Int32) a1 z102) ∧ (¬ r103 = 0 → wc_X12_holesOf_69 B8 B18 Q a2 a3 (1 : Int32) a1 z102)))))))))
def wc_X12_holesOf_18 (B8 : Int32 → Int32 → tq_S → Prop) (Q : tq_O → tq_S → Prop) (a1 : Int32) (a2 : Int32) (a3 : Int32) (z : tq_S) : Prop := tq_lp (σ := Int32 × Int32 × tq_S) (fun B s => wb_X12_holesOf_18 B8 (fun b1 b3 z => B (b1, b3, z)) Q s.1 a2 s.2.1 s.2.2) (a1, a3, z)
theorem ab_X12_holesOf_18 {K : Nat × (Nat → Int32)} {x : Nat} {Q : tq_O → tq_S → Prop} {B8 : Int32 → Int32 → tq_S → Prop} {B18 : Int32 → Int32 → tq_S → Prop} {a1 : Int32} {a2 : Int32} {a3 : Int32} {z : tq_S} (hB8 : ∀ (b1 : Int32) (b2 : Int32) (z : tq_S), B8 b1 b2 z → tq_T K 3 x mm_X12_holesOf 8 [.ref 51, .int b1, .int b2, .null, .null] [] z Q) (hB18 : ∀ (b1 : Int32) (b3 : Int32) (z : tq_S), B18 b1 b3 z → tq_T K 3 x mm_X12_holesOf 18 [.ref 51, .int b1, .int a2, .int b3, .null] [] z Q) (h : wb_X12_holesOf_18 B8 B18 Q a1 a2 a3 z) : tq_T K 3 x mm_X12_holesOf 18 [.ref 51, .int a1, .int a2, .int a3, .null] [] z Q := by
  unfold wb_X12_holesOf_18 at h
  refine tq_s_iload_n (kk := 3) (by decide +kernel) rfl ?_
  refine tq_s_aload_n (kk := 0) (by decide +kernel) rfl ?_
  refine fg_12_7_51 rfl (by decide +kernel) ?_
  refine tq_icmp_ge (off := 54) (tgt := 77) (by decide +kernel) (by decide +kernel) (fun hc => ?_) (fun hc => ?_)
  · replace h := h.1 hc
    exact tq_to (tq_lk1 (tq_lk1 (tq_lk1 (tq_ld1 (tq_lk1 tq_l0))))) (ac_X12_holesOf_77 hB8 h)
  · replace h := h.2 hc
    refine tq_k_bi (n := 8) (v := (8 : Int32)) (by decide +kernel) kb_8 ?_
    refine tq_s_iload_n (kk := 2) (by decide +kernel) rfl ?_
    refine tq_s_imul (by decide +kernel) ?_
    refine tq_s_iload_n (kk := 3) (by decide +kernel) rfl ?_
    refine tq_s_iadd (by decide +kernel) ?_
    refine tq_g_istore (i := 4) (fun v101 => [.ref 51, .int a1, .int a2, .int a3, .int v101]) (by decide +kernel) (by decide) (fun _ => rfl) (fun v101 ev101 => ?_)
    replace h := h v101 ev101
    refine tq_s_aload_n (kk := 0) (by decide +kernel) rfl ?_
    refine fg_12_16_51 rfl (by decide +kernel) ?_
    refine tq_s_iload (i := 4) (by decide +kernel) rfl ?_
    refine tq_s_zald (by decide +kernel) sh_52 h.1 ?_
    replace h := h.2
    refine tq_if_ne (off := 30) (tgt := 71) (by decide +kernel) (by decide +kernel) (fun hc => ?_) (fun hc => ?_)
    · replace h := h.1 hc
      exact tq_to (tq_lk1 (tq_lk1 (tq_lk1 (tq_lk1 (tq_ld1 tq_l0))))) (ac_X12_holesOf_71 hB8 hB18 h)
    · replace h := h.2 hc
      refine tq_s_aload_n (kk := 0) (by decide +kernel) rfl ?_
      refine fg_12_46_51 rfl (by decide +kernel) ?_
      refine tq_s_iload (i := 4) (by decide +kernel) rfl ?_
      refine tq_s_zald (by decide +kernel) sh_61 h.1 ?_
      replace h := h.2
      refine tq_if_ne (off := 20) (tgt := 71) (by decide +kernel) (by decide +kernel) (fun hc => ?_) (fun hc => ?_)
      · replace h := h.1 hc
        exact tq_to (tq_lk1 (tq_lk1 (tq_lk1 (tq_lk1 (tq_ld1 tq_l0))))) (ac_X12_holesOf_71 hB8 hB18 h)
      · replace h := h.2 hc
        refine tq_s_iload_n (kk := 1) (by decide +kernel) rfl ?_
        refine tq_s_aload_n (kk := 0) (by decide +kernel) rfl ?_
        refine tq_s_iload (i := 4) (by decide +kernel) rfl ?_
        refine tq_callV (as := [.int v101]) (st := [.int a1]) (d1 := 2) (x1 := 0) (x2 := x) (by decide +kernel) ln_12_191 mf_X12_isWithin rfl sh_51 rfl (by decide) np_X12_isWithin rfl (Nat.le_of_ble_eq_true rfl) (by decide) (Nat.zero_add _).symm (tq_M_mono (am_X12_isWithin h) ?_)
        refine tq_wi_e (fun r103 z102 h => ?_)
        refine tq_if_eq (off := 7) (tgt := 68) (by decide +kernel) (by decide +kernel) (fun hc => ?_) (fun hc => ?_)
        · replace h := h.1 hc
          refine tq_k_ic (n := 0) (v := (0 : Int32)) (by decide +kernel) kc_0 ?_
          exact tq_to (tq_lk1 (tq_ld1 (tq_lk1 (tq_lk1 (tq_ld1 tq_l0))))) (ac_X12_holesOf_69 hB8 hB18 h)
        · replace h := h.2 hc
          refine tq_k_ic (n := 1) (v := (1 : Int32)) (by decide +kernel) kc_1 ?_
          refine tq_s_goto (off := 4) (tgt := 69) (by decide +kernel) (by decide +kernel) ?_
          exact tq_to (tq_lk1 (tq_ld1 (tq_lk1 (tq_lk1 (tq_ld1 tq_l0))))) (ac_X12_holesOf_69 hB8 hB18 h)
theorem ac_X12_holesOf_18 {K : Nat × (Nat → Int32)} {x : Nat} {Q : tq_O → tq_S → Prop} {B8 : Int32 → Int32 → tq_S → Prop} {a1 : Int32} {a2 : Int32} {a3 : Int32} {z : tq_S} (hB8 : ∀ (b1 : Int32) (b2 : Int32) (z : tq_S), B8 b1 b2 z → tq_T K 3 x mm_X12_holesOf 8 [.ref 51, .int b1, .int b2, .null, .null] [] z Q) (h : wc_X12_holesOf_18 B8 Q a1 a2 a3 z) : tq_T K 3 x mm_X12_holesOf 18 [.ref 51, .int a1, .int a2, .int a3, .null] [] z Q :=
  tq_lp_T (σ := Int32 × Int32 × tq_S) (s := (a1, a3, z)) (G := fun s => tq_T K 3 x mm_X12_holesOf 18 [.ref 51, .int s.1, .int a2, .int s.2.1, .null] [] s.2.2 Q) (fun B hB s h => ab_X12_holesOf_18 hB8 (fun b1 b3 z h => hB (b1, b3, z) h) h) h
def wb_X12_holesOf_8 (B8 : Int32 → Int32 → tq_S → Prop) (Q : tq_O → tq_S → Prop) (a1 : Int32) (a2 : Int32) (z : tq_S) : Prop := (((tq_fi z 3266) ≤ a2 → Q (.inl (some (.int a1))) z) ∧ (¬ (tq_fi z 3266) ≤ a2 → wc_X12_holesOf_18 B8 Q a1 a2 (0 : Int32) z))
def wc_X12_holesOf_8 (Q : tq_O → tq_S → Prop) (a1 : Int32) (a2 : Int32) (z : tq_S) : Prop := tq_lp (σ := Int32 × Int32 × tq_S) (fun B s => wb_X12_holesOf_8 (fun b1 b2 z => B (b1, b2, z)) Q s.1 s.2.1 s.2.2) (a1, a2, z)
theorem ab_X12_holesOf_8 {K : Nat × (Nat → Int32)} {x : Nat} {Q : tq_O → tq_S → Prop} {B8 : Int32 → Int32 → tq_S → Prop} {a1 : Int32} {a2 : Int32} {z : tq_S} (hB8 : ∀ (b1 : Int32) (b2 : Int32) (z : tq_S), B8 b1 b2 z → tq_T K 3 x mm_X12_holesOf 8 [.ref 51, .int b1, .int b2, .null, .null] [] z Q) (h : wb_X12_holesOf_8 B8 Q a1 a2 z) : tq_T K 3 x mm_X12_holesOf 8 [.ref 51, .int a1, .int a2, .null, .null] [] z Q := by
  unfold wb_X12_holesOf_8 at h
  refine tq_s_iload_n (kk := 2) (by decide +kernel) rfl ?_
  refine tq_s_aload_n (kk := 0) (by decide +kernel) rfl ?_
  refine fg_12_13_51 rfl (by decide +kernel) ?_
  refine tq_icmp_ge (off := 70) (tgt := 83) (by decide +kernel) (by decide +kernel) (fun hc => ?_) (fun hc => ?_)
  · replace h := h.1 hc
    refine tq_s_iload_n (kk := 1) (by decide +kernel) rfl ?_
    exact tq_ret_i (st := []) (by decide +kernel) rfl h
  · replace h := h.2 hc
    refine tq_k_ic (n := 0) (v := (0 : Int32)) (by decide +kernel) kc_0 ?_
    refine tq_s_istore_n (kk := 3) (L9 := [.ref 51, .int a1, .int a2, .int (0 : Int32), .null]) (by decide +kernel) (by decide) rfl ?_
    exact ac_X12_holesOf_18 hB8 h
theorem ac_X12_holesOf_8 {K : Nat × (Nat → Int32)} {x : Nat} {Q : tq_O → tq_S → Prop} {a1 : Int32} {a2 : Int32} {z : tq_S} (h : wc_X12_holesOf_8 Q a1 a2 z) : tq_T K 3 x mm_X12_holesOf 8 [.ref 51, .int a1, .int a2, .null, .null] [] z Q :=
  tq_lp_T (σ := Int32 × Int32 × tq_S) (s := (a1, a2, z)) (G := fun s => tq_T K 3 x mm_X12_holesOf 8 [.ref 51, .int s.1, .int s.2.1, .null, .null] [] s.2.2 Q) (fun B hB s h => ab_X12_holesOf_8 (fun b1 b2 z h => hB (b1, b2, z) h) h) h
def wm_X12_holesOf  (z : tq_S) (Q : tq_O → tq_S → Prop) : Prop := wm_X12_noneSeen z (tq_wv fun z1 => wc_X12_holesOf_8 Q (0 : Int32) (0 : Int32) z1)
theorem am_X12_holesOf {K : Nat × (Nat → Int32)} {x : Nat} {z : tq_S} {Q : tq_O → tq_S → Prop}  (h : wm_X12_holesOf z Q) : tq_M K 3 x mm_X12_holesOf [.ref 51] z Q := by
  unfold wm_X12_holesOf at h
  refine tq_enter (L := [.ref 51, .null, .null, .null, .null]) mf_X12_holesOf.1 rfl rfl (Nat.le_of_ble_eq_true rfl) ?_
  refine tq_s_aload_n (kk := 0) (by decide +kernel) rfl ?_
  refine tq_callV (as := []) (st := []) (d1 := 0) (x1 := 0) (x2 := x) (by decide +kernel) ln_12_177 mf_X12_noneSeen rfl sh_51 rfl (by decide) np_X12_noneSeen rfl (Nat.le_of_ble_eq_true rfl) (by decide) (Nat.zero_add _).symm (tq_M_mono (am_X12_noneSeen h) ?_)
  refine tq_wv_e (fun z1 h => ?_)
  refine tq_k_ic (n := 0) (v := (0 : Int32)) (by decide +kernel) kc_0 ?_
  refine tq_s_istore_n (kk := 1) (L9 := [.ref 51, .int (0 : Int32), .null, .null, .null]) (by decide +kernel) (by decide) rfl ?_
  refine tq_k_ic (n := 0) (v := (0 : Int32)) (by decide +kernel) kc_0 ?_
  refine tq_s_istore_n (kk := 2) (L9 := [.ref 51, .int (0 : Int32), .int (0 : Int32), .null, .null]) (by decide +kernel) (by decide) rfl ?_
  exact ac_X12_holesOf_8 h
def wm_X12_holes  (z : tq_S) (Q : tq_O → tq_S → Prop) : Prop := ∀ z1 : tq_S, z1 = tq_sfi z 3264 (0 : Int32) → wm_X12_holesOf z1 (tq_wi fun r3 z2 => Q (.inl (some (.int r3))) z2)
theorem am_X12_holes {K : Nat × (Nat → Int32)} {x : Nat} {z : tq_S} {Q : tq_O → tq_S → Prop}  (h : wm_X12_holes z Q) : tq_M K 4 x mm_X12_holes [.ref 51] z Q := by
  unfold wm_X12_holes at h
  refine tq_enter (L := [.ref 51]) mf_X12_holes.1 rfl rfl (Nat.le_of_ble_eq_true rfl) ?_
  refine tq_s_aload_n (kk := 0) (by decide +kernel) rfl ?_
  refine tq_k_ic (n := 0) (v := (0 : Int32)) (by decide +kernel) kc_0 ?_
  refine fp_12_129_51 rfl (by decide +kernel) (fun z1 ez1 => ?_)
  replace h := h z1 ez1
  refine tq_s_aload_n (kk := 0) (by decide +kernel) rfl ?_
  refine tq_callV (as := []) (st := []) (d1 := 3) (x1 := 0) (x2 := x) (by decide +kernel) ln_12_188 mf_X12_holesOf rfl sh_51 rfl (by decide) np_X12_holesOf rfl (Nat.le_of_ble_eq_true rfl) (by decide) (Nat.zero_add _).symm (tq_M_mono (am_X12_holesOf h) ?_)
  refine tq_wi_e (fun r3 z2 h => ?_)
  exact tq_ret_i (st := []) (by decide +kernel) rfl h
def wb_X12_all_2 (B2 : Int32 → tq_S → Prop) (Q : tq_O → tq_S → Prop) (a1 : Int32) (z : tq_S) : Prop := (((64 : Int32) ≤ a1 → Q (.inl none) z) ∧ (¬ (64 : Int32) ≤ a1 → vp_in a1 64 ∧ vp_in a1 64 ∧ ∀ z101 : tq_S, z101 = tq_sai z 53 (upd (tq_ai z 53) (Int32.toNatClampNeg a1) (vp_nar .boolean (tq_ai z 52 (Int32.toNatClampNeg a1)))) → ∀ v102 : Int32, v102 = a1 + (1 : Int32) → B2 v102 z101))
def wc_X12_all_2 (Q : tq_O → tq_S → Prop) (a1 : Int32) (z : tq_S) : Prop := tq_lp (σ := Int32 × tq_S) (fun B s => wb_X12_all_2 (fun b1 z => B (b1, z)) Q s.1 s.2) (a1, z)
theorem ab_X12_all_2 {K : Nat × (Nat → Int32)} {x : Nat} {Q : tq_O → tq_S → Prop} {B2 : Int32 → tq_S → Prop} {a1 : Int32} {z : tq_S} (hB2 : ∀ (b1 : Int32) (z : tq_S), B2 b1 z → tq_T K 0 x mm_X12_all 2 [.ref 51, .int b1] [] z Q) (h : wb_X12_all_2 B2 Q a1 z) : tq_T K 0 x mm_X12_all 2 [.ref 51, .int a1] [] z Q := by
  unfold wb_X12_all_2 at h
  refine tq_s_iload_n (kk := 1) (by decide +kernel) rfl ?_
  refine tq_k_bi (n := 64) (v := (64 : Int32)) (by decide +kernel) kb_64 ?_
  refine tq_icmp_ge (off := 21) (tgt := 26) (by decide +kernel) (by decide +kernel) (fun hc => ?_) (fun hc => ?_)
  · replace h := h.1 hc
    exact tq_ret_v (st := []) (by decide +kernel) rfl h
  · replace h := h.2 hc
    refine tq_s_aload_n (kk := 0) (by decide +kernel) rfl ?_
    refine fg_12_20_51 rfl (by decide +kernel) ?_
    refine tq_s_iload_n (kk := 1) (by decide +kernel) rfl ?_
    refine tq_s_aload_n (kk := 0) (by decide +kernel) rfl ?_
    refine fg_12_16_51 rfl (by decide +kernel) ?_
    refine tq_s_iload_n (kk := 1) (by decide +kernel) rfl ?_
    refine tq_s_zald (by decide +kernel) sh_52 h.1 ?_
    replace h := h.2
    refine tq_g_zast (by decide +kernel) sh_53 h.1 (fun z101 ez101 => ?_)
    replace h := h.2 z101 ez101
    refine tq_g_iinc (i := 1) (fun v102 => [.ref 51, .int v102]) (by decide +kernel) rfl (1 : Int32) kc_1 (fun _ => rfl) (fun v102 ev102 => ?_)
    replace h := h v102 ev102
    refine tq_s_goto (off := -21) (tgt := 2) (by decide +kernel) (by decide +kernel) ?_
    exact hB2 _ _ h
theorem ac_X12_all_2 {K : Nat × (Nat → Int32)} {x : Nat} {Q : tq_O → tq_S → Prop} {a1 : Int32} {z : tq_S} (h : wc_X12_all_2 Q a1 z) : tq_T K 0 x mm_X12_all 2 [.ref 51, .int a1] [] z Q :=
  tq_lp_T (σ := Int32 × tq_S) (s := (a1, z)) (G := fun s => tq_T K 0 x mm_X12_all 2 [.ref 51, .int s.1] [] s.2 Q) (fun B hB s h => ab_X12_all_2 (fun b1 z h => hB (b1, z) h) h) h
def wm_X12_all  (z : tq_S) (Q : tq_O → tq_S → Prop) : Prop := wc_X12_all_2 Q (0 : Int32) z
theorem am_X12_all {K : Nat × (Nat → Int32)} {x : Nat} {z : tq_S} {Q : tq_O → tq_S → Prop}  (h : wm_X12_all z Q) : tq_M K 0 x mm_X12_all [.ref 51] z Q := by
  unfold wm_X12_all at h
  refine tq_enter (L := [.ref 51, .null]) mf_X12_all.1 rfl rfl (Nat.le_of_ble_eq_true rfl) ?_
  refine tq_k_ic (n := 0) (v := (0 : Int32)) (by decide +kernel) kc_0 ?_
  refine tq_s_istore_n (kk := 1) (L9 := [.ref 51, .int (0 : Int32)]) (by decide +kernel) (by decide) rfl ?_
  exact ac_X12_all_2 h
def wm_X12_isLeft (a1 : Int32) (a2 : Int32) (z : tq_S) (Q : tq_O → tq_S → Prop) : Prop := (((tq_fi z 3265) ≤ a1 → Q (.inl (some (.int (0 : Int32)))) z) ∧ (¬ (tq_fi z 3265) ≤ a1 → (((tq_fi z 3266) ≤ a2 → Q (.inl (some (.int (0 : Int32)))) z) ∧ (¬ (tq_fi z 3266) ≤ a2 → vp_in (((8 : Int32) * a2) + a1) 64 ∧ (((tq_ai z 53 (Int32.toNatClampNeg (((8 : Int32) * a2) + a1))) = 0 → Q (.inl (some (.int (0 : Int32)))) z) ∧ (¬ (tq_ai z 53 (Int32.toNatClampNeg (((8 : Int32) * a2) + a1))) = 0 → Q (.inl (some (.int (1 : Int32)))) z))))))
theorem am_X12_isLeft {K : Nat × (Nat → Int32)} {x : Nat} {z : tq_S} {Q : tq_O → tq_S → Prop} {a1 : Int32} {a2 : Int32} (h : wm_X12_isLeft a1 a2 z Q) : tq_M K 0 x mm_X12_isLeft [.ref 51, .int a1, .int a2] z Q := by
  unfold wm_X12_isLeft at h
  refine tq_enter (L := [.ref 51, .int a1, .int a2]) mf_X12_isLeft.1 rfl rfl (Nat.le_of_ble_eq_true rfl) ?_
  refine tq_s_iload_n (kk := 1) (by decide +kernel) rfl ?_
  refine tq_s_aload_n (kk := 0) (by decide +kernel) rfl ?_
  refine fg_12_7_51 rfl (by decide +kernel) ?_
  refine tq_icmp_ge (off := 29) (tgt := 34) (by decide +kernel) (by decide +kernel) (fun hc => ?_) (fun hc => ?_)
  · replace h := h.1 hc
    refine tq_k_ic (n := 0) (v := (0 : Int32)) (by decide +kernel) kc_0 ?_
    exact tq_ret_z (st := []) (ty := .boolean) (by decide +kernel) (by decide +kernel) rfl h
  · replace h := h.2 hc
    refine tq_s_iload_n (kk := 2) (by decide +kernel) rfl ?_
    refine tq_s_aload_n (kk := 0) (by decide +kernel) rfl ?_
    refine fg_12_13_51 rfl (by decide +kernel) ?_
    refine tq_icmp_ge (off := 21) (tgt := 34) (by decide +kernel) (by decide +kernel) (fun hc => ?_) (fun hc => ?_)
    · replace h := h.1 hc
      refine tq_k_ic (n := 0) (v := (0 : Int32)) (by decide +kernel) kc_0 ?_
      exact tq_ret_z (st := []) (ty := .boolean) (by decide +kernel) (by decide +kernel) rfl h
    · replace h := h.2 hc
      refine tq_s_aload_n (kk := 0) (by decide +kernel) rfl ?_
      refine fg_12_20_51 rfl (by decide +kernel) ?_
      refine tq_k_bi (n := 8) (v := (8 : Int32)) (by decide +kernel) kb_8 ?_
      refine tq_s_iload_n (kk := 2) (by decide +kernel) rfl ?_
      refine tq_s_imul (by decide +kernel) ?_
      refine tq_s_iload_n (kk := 1) (by decide +kernel) rfl ?_
      refine tq_s_iadd (by decide +kernel) ?_
      refine tq_s_zald (by decide +kernel) sh_53 h.1 ?_
      replace h := h.2
      refine tq_if_eq (off := 7) (tgt := 34) (by decide +kernel) (by decide +kernel) (fun hc => ?_) (fun hc => ?_)
      · replace h := h.1 hc
        refine tq_k_ic (n := 0) (v := (0 : Int32)) (by decide +kernel) kc_0 ?_
        exact tq_ret_z (st := []) (ty := .boolean) (by decide +kernel) (by decide +kernel) rfl h
      · replace h := h.2 hc
        refine tq_k_ic (n := 1) (v := (1 : Int32)) (by decide +kernel) kc_1 ?_
        refine tq_s_goto (off := 4) (tgt := 35) (by decide +kernel) (by decide +kernel) ?_
        exact tq_ret_z (st := []) (ty := .boolean) (by decide +kernel) (by decide +kernel) rfl h
def wc_X12_fillRow_39 (R : Int32 → Int32 → Int32 → Int32 → Int64 → tq_S → (tq_O → tq_S → Prop) → Prop) (Q : tq_O → tq_S → Prop) (a1 : Int32) (a2 : Int32) (a3 : Int32) (a4 : Int32) (a5 : Int64) (z : tq_S) : Prop := R a1 (a2 + (1 : Int32)) a3 a4 a5 z (tq_wv fun z101 => Q (.inl none) z101)
theorem ac_X12_fillRow_39 {K : Nat × (Nat → Int32)} {x : Nat} {Q : tq_O → tq_S → Prop} {n : Nat} {R : Int32 → Int32 → Int32 → Int32 → Int64 → tq_S → (tq_O → tq_S → Prop) → Prop} {a1 : Int32} {a2 : Int32} {a3 : Int32} {a4 : Int32} {a5 : Int64} {z : tq_S} (hR : ∀ (a1 : Int32) (a2 : Int32) (a3 : Int32) (a4 : Int32) (a5 : Int64) (z : tq_S) (Q : tq_O → tq_S → Prop), R a1 a2 a3 a4 a5 z Q → tq_M K (0 + n) 0 mm_X12_fillRow [.ref 51, .int a1, .int a2, .int a3, .int a4, .long a5] z Q) (h : wc_X12_fillRow_39 R Q a1 a2 a3 a4 a5 z) : tq_T K (0 + n + 1) x mm_X12_fillRow 39 [.ref 51, .int a1, .int a2, .int a3, .int a4, .long a5, .null] [] z Q := by
  unfold wc_X12_fillRow_39 at h
  refine tq_s_aload_n (kk := 0) (by decide +kernel) rfl ?_
  refine tq_s_iload_n (kk := 1) (by decide +kernel) rfl ?_
  refine tq_s_iload_n (kk := 2) (by decide +kernel) rfl ?_
  refine tq_k_ic (n := 1) (v := (1 : Int32)) (by decide +kernel) kc_1 ?_
  refine tq_s_iadd (by decide +kernel) ?_
  refine tq_s_iload_n (kk := 3) (by decide +kernel) rfl ?_
  refine tq_s_iload (i := 4) (by decide +kernel) rfl ?_
  refine tq_s_lload (i := 5) (by decide +kernel) rfl ?_
  refine tq_callV (as := [.int a1, .int (a2 + (1 : Int32)), .int a3, .int a4, .long a5]) (st := []) (d1 := (0 + n)) (x1 := 0) (x2 := x) (by decide +kernel) ln_12_195 mf_X12_fillRow rfl sh_51 rfl (by decide) np_X12_fillRow rfl (Nat.le_of_ble_eq_true rfl) (by omega) (Nat.zero_add _).symm (tq_M_mono (hR _ _ _ _ _ _ _ h) ?_)
  refine tq_wv_e (fun z101 h => ?_)
  exact tq_ret_v (st := []) (by decide +kernel) rfl h
def wc_X12_fillRow_87 (R : Int32 → Int32 → Int32 → Int32 → Int64 → tq_S → (tq_O → tq_S → Prop) → Prop) (Q : tq_O → tq_S → Prop) (a1 : Int32) (a2 : Int32) (a3 : Int32) (a4 : Int32) (a5 : Int64) (z : tq_S) : Prop := wm_X12_isLeft a2 (a1 + (1 : Int32)) z (tq_wi fun r102 z101 => ((r102 = 0 → Q (.inl none) z101) ∧ (¬ r102 = 0 → R a1 (a2 + (1 : Int32)) a3 (a4 ||| ((1 : Int32) <<< (a2 &&& 31))) a5 z101 (tq_wv fun z103 => Q (.inl none) z103))))
theorem ac_X12_fillRow_87 {K : Nat × (Nat → Int32)} {x : Nat} {Q : tq_O → tq_S → Prop} {n : Nat} {R : Int32 → Int32 → Int32 → Int32 → Int64 → tq_S → (tq_O → tq_S → Prop) → Prop} {a1 : Int32} {a2 : Int32} {a3 : Int32} {a4 : Int32} {a5 : Int64} {z : tq_S} (hR : ∀ (a1 : Int32) (a2 : Int32) (a3 : Int32) (a4 : Int32) (a5 : Int64) (z : tq_S) (Q : tq_O → tq_S → Prop), R a1 a2 a3 a4 a5 z Q → tq_M K (0 + n) 0 mm_X12_fillRow [.ref 51, .int a1, .int a2, .int a3, .int a4, .long a5] z Q) (h : wc_X12_fillRow_87 R Q a1 a2 a3 a4 a5 z) : tq_T K (0 + n + 1) x mm_X12_fillRow 87 [.ref 51, .int a1, .int a2, .int a3, .int a4, .long a5, .null] [] z Q := by
  unfold wc_X12_fillRow_87 at h
  refine tq_s_aload_n (kk := 0) (by decide +kernel) rfl ?_
  refine tq_s_iload_n (kk := 2) (by decide +kernel) rfl ?_
  refine tq_s_iload_n (kk := 1) (by decide +kernel) rfl ?_
  refine tq_k_ic (n := 1) (v := (1 : Int32)) (by decide +kernel) kc_1 ?_
  refine tq_s_iadd (by decide +kernel) ?_
  refine tq_callV (as := [.int a2, .int (a1 + (1 : Int32))]) (st := []) (d1 := 0) (x1 := 0) (x2 := x) (by decide +kernel) ln_12_199 mf_X12_isLeft rfl sh_51 rfl (by decide) np_X12_isLeft rfl (Nat.le_of_ble_eq_true rfl) (by omega) (Nat.zero_add _).symm (tq_M_mono (am_X12_isLeft h) ?_)
  refine tq_wi_e (fun r102 z101 h => ?_)
  refine tq_if_eq (off := 20) (tgt := 115) (by decide +kernel) (by decide +kernel) (fun hc => ?_) (fun hc => ?_)
  · replace h := h.1 hc
    exact tq_ret_v (st := []) (by decide +kernel) rfl h
  · replace h := h.2 hc
    refine tq_s_aload_n (kk := 0) (by decide +kernel) rfl ?_
    refine tq_s_iload_n (kk := 1) (by decide +kernel) rfl ?_
    refine tq_s_iload_n (kk := 2) (by decide +kernel) rfl ?_
    refine tq_k_ic (n := 1) (v := (1 : Int32)) (by decide +kernel) kc_1 ?_
    refine tq_s_iadd (by decide +kernel) ?_
    refine tq_s_iload_n (kk := 3) (by decide +kernel) rfl ?_
    refine tq_s_iload (i := 4) (by decide +kernel) rfl ?_
    refine tq_k_ic (n := 1) (v := (1 : Int32)) (by decide +kernel) kc_1 ?_
    refine tq_s_iload_n (kk := 2) (by decide +kernel) rfl ?_
    refine tq_s_ishl (by decide +kernel) ?_
    refine tq_s_ior (by decide +kernel) ?_
    refine tq_s_lload (i := 5) (by decide +kernel) rfl ?_
    refine tq_callV (as := [.int a1, .int (a2 + (1 : Int32)), .int a3, .int (a4 ||| ((1 : Int32) <<< (a2 &&& 31))), .long a5]) (st := []) (d1 := (0 + n)) (x1 := 0) (x2 := x) (by decide +kernel) ln_12_195 mf_X12_fillRow rfl sh_51 rfl (by decide) np_X12_fillRow rfl (Nat.le_of_ble_eq_true rfl) (by omega) (Nat.zero_add _).symm (tq_M_mono (hR _ _ _ _ _ _ _ h) ?_)
    refine tq_wv_e (fun z103 h => ?_)
    exact tq_ret_v (st := []) (by decide +kernel) rfl h
def we_X12_fillRow (R : Int32 → Int32 → Int32 → Int32 → Int64 → tq_S → (tq_O → tq_S → Prop) → Prop) (a1 : Int32) (a2 : Int32) (a3 : Int32) (a4 : Int32) (a5 : Int64) (z : tq_S) (Q : tq_O → tq_S → Prop) : Prop := ((¬ a2 = (tq_fi z 3265) → wm_X12_isLeft a2 a1 z (tq_wi fun r2 z1 => ((r2 = 0 → wc_X12_fillRow_39 R Q a1 a2 a3 a4 a5 z1) ∧ (¬ r2 = 0 → ((¬ ((a3 >>> (a2 &&& 31)) &&& (1 : Int32)) = (1 : Int32) → wm_X12_isLeft (a2 + (1 : Int32)) a1 z1 (tq_wi fun r4 z3 => ((r4 = 0 → wc_X12_fillRow_87 R Q a1 a2 a3 a4 a5 z3) ∧ (¬ r4 = 0 → ((¬ ((a3 >>> ((a2 + (1 : Int32)) &&& 31)) &&& (1 : Int32)) = 0 → wc_X12_fillRow_87 R Q a1 a2 a3 a4 a5 z3) ∧ (((a3 >>> ((a2 + (1 : Int32)) &&& 31)) &&& (1 : Int32)) = 0 → R a1 (a2 + (2 : Int32)) a3 a4 a5 z3 (tq_wv fun z5 => wc_X12_fillRow_87 R Q a1 a2 a3 a4 a5 z5))))))) ∧ (((a3 >>> (a2 &&& 31)) &&& (1 : Int32)) = (1 : Int32) → wc_X12_fillRow_39 R Q a1 a2 a3 a4 a5 z1)))))) ∧ (a2 = (tq_fi z 3265) → vp_in a4 256 ∧ vp_in a4 256 ∧ ∀ z6 : tq_S, z6 = tq_sal z 55 (vp_updL (tq_al z 55) (Int32.toNatClampNeg a4) ((tq_al z 55 (Int32.toNatClampNeg a4)) + a5)) → Q (.inl none) z6))
def wm_X12_fillRow : Nat → Int32 → Int32 → Int32 → Int32 → Int64 → tq_S → (tq_O → tq_S → Prop) → Prop
  | 0, _, _, _, _, _, _, _ => False
  | n + 1, a1, a2, a3, a4, a5, z, Q => we_X12_fillRow (wm_X12_fillRow n) a1 a2 a3 a4 a5 z Q
theorem ae_X12_fillRow {K : Nat × (Nat → Int32)} {x : Nat} {n : Nat} {R : Int32 → Int32 → Int32 → Int32 → Int64 → tq_S → (tq_O → tq_S → Prop) → Prop} {a1 : Int32} {a2 : Int32} {a3 : Int32} {a4 : Int32} {a5 : Int64} {z : tq_S} {Q : tq_O → tq_S → Prop} (hR : ∀ (a1 : Int32) (a2 : Int32) (a3 : Int32) (a4 : Int32) (a5 : Int64) (z : tq_S) (Q : tq_O → tq_S → Prop), R a1 a2 a3 a4 a5 z Q → tq_M K (0 + n) 0 mm_X12_fillRow [.ref 51, .int a1, .int a2, .int a3, .int a4, .long a5] z Q) (h : we_X12_fillRow R a1 a2 a3 a4 a5 z Q) : tq_M K (0 + n + 1) x mm_X12_fillRow [.ref 51, .int a1, .int a2, .int a3, .int a4, .long a5] z Q := by
  unfold we_X12_fillRow at h
  refine tq_enter (L := [.ref 51, .int a1, .int a2, .int a3, .int a4, .long a5, .null]) mf_X12_fillRow.1 rfl rfl (Nat.le_of_ble_eq_true rfl) ?_
  refine tq_s_iload_n (kk := 2) (by decide +kernel) rfl ?_
  refine tq_s_aload_n (kk := 0) (by decide +kernel) rfl ?_
  refine fg_12_7_51 rfl (by decide +kernel) ?_
  refine tq_icmp_ne (off := 16) (tgt := 21) (by decide +kernel) (by decide +kernel) (fun hc => ?_) (fun hc => ?_)
  · replace h := h.1 hc
    refine tq_s_aload_n (kk := 0) (by decide +kernel) rfl ?_
    refine tq_s_iload_n (kk := 2) (by decide +kernel) rfl ?_
    refine tq_s_iload_n (kk := 1) (by decide +kernel) rfl ?_
    refine tq_callV (as := [.int a2, .int a1]) (st := []) (d1 := 0) (x1 := 0) (x2 := x) (by decide +kernel) ln_12_199 mf_X12_isLeft rfl sh_51 rfl (by decide) np_X12_isLeft rfl (Nat.le_of_ble_eq_true rfl) (by omega) (Nat.zero_add _).symm (tq_M_mono (am_X12_isLeft h) ?_)
    refine tq_wi_e (fun r2 z1 h => ?_)
    refine tq_if_eq (off := 12) (tgt := 39) (by decide +kernel) (by decide +kernel) (fun hc => ?_) (fun hc => ?_)
    · replace h := h.1 hc
      exact ac_X12_fillRow_39 hR h
    · replace h := h.2 hc
      refine tq_s_iload_n (kk := 3) (by decide +kernel) rfl ?_
      refine tq_s_iload_n (kk := 2) (by decide +kernel) rfl ?_
      refine tq_s_ishr (by decide +kernel) ?_
      refine tq_k_ic (n := 1) (v := (1 : Int32)) (by decide +kernel) kc_1 ?_
      refine tq_s_iand (by decide +kernel) ?_
      refine tq_k_ic (n := 1) (v := (1 : Int32)) (by decide +kernel) kc_1 ?_
      refine tq_icmp_ne (off := 17) (tgt := 53) (by decide +kernel) (by decide +kernel) (fun hc => ?_) (fun hc => ?_)
      · replace h := h.1 hc
        refine tq_s_aload_n (kk := 0) (by decide +kernel) rfl ?_
        refine tq_s_iload_n (kk := 2) (by decide +kernel) rfl ?_
        refine tq_k_ic (n := 1) (v := (1 : Int32)) (by decide +kernel) kc_1 ?_
        refine tq_s_iadd (by decide +kernel) ?_
        refine tq_s_iload_n (kk := 1) (by decide +kernel) rfl ?_
        refine tq_callV (as := [.int (a2 + (1 : Int32)), .int a1]) (st := []) (d1 := 0) (x1 := 0) (x2 := x) (by decide +kernel) ln_12_199 mf_X12_isLeft rfl sh_51 rfl (by decide) np_X12_isLeft rfl (Nat.le_of_ble_eq_true rfl) (by omega) (Nat.zero_add _).symm (tq_M_mono (am_X12_isLeft h) ?_)
        refine tq_wi_e (fun r4 z3 h => ?_)
        refine tq_if_eq (off := 26) (tgt := 87) (by decide +kernel) (by decide +kernel) (fun hc => ?_) (fun hc => ?_)
        · replace h := h.1 hc
          exact ac_X12_fillRow_87 hR h
        · replace h := h.2 hc
          refine tq_s_iload_n (kk := 3) (by decide +kernel) rfl ?_
          refine tq_s_iload_n (kk := 2) (by decide +kernel) rfl ?_
          refine tq_k_ic (n := 1) (v := (1 : Int32)) (by decide +kernel) kc_1 ?_
          refine tq_s_iadd (by decide +kernel) ?_
          refine tq_s_ishr (by decide +kernel) ?_
          refine tq_k_ic (n := 1) (v := (1 : Int32)) (by decide +kernel) kc_1 ?_
          refine tq_s_iand (by decide +kernel) ?_
          refine tq_if_ne (off := 16) (tgt := 87) (by decide +kernel) (by decide +kernel) (fun hc => ?_) (fun hc => ?_)
          · replace h := h.1 hc
            exact ac_X12_fillRow_87 hR h
          · replace h := h.2 hc
            refine tq_s_aload_n (kk := 0) (by decide +kernel) rfl ?_
            refine tq_s_iload_n (kk := 1) (by decide +kernel) rfl ?_
            refine tq_s_iload_n (kk := 2) (by decide +kernel) rfl ?_
            refine tq_k_ic (n := 2) (v := (2 : Int32)) (by decide +kernel) kc_2 ?_
            refine tq_s_iadd (by decide +kernel) ?_
            refine tq_s_iload_n (kk := 3) (by decide +kernel) rfl ?_
            refine tq_s_iload (i := 4) (by decide +kernel) rfl ?_
            refine tq_s_lload (i := 5) (by decide +kernel) rfl ?_
            refine tq_callV (as := [.int a1, .int (a2 + (2 : Int32)), .int a3, .int a4, .long a5]) (st := []) (d1 := (0 + n)) (x1 := 0) (x2 := x) (by decide +kernel) ln_12_195 mf_X12_fillRow rfl sh_51 rfl (by decide) np_X12_fillRow rfl (Nat.le_of_ble_eq_true rfl) (by omega) (Nat.zero_add _).symm (tq_M_mono (hR _ _ _ _ _ _ _ h) ?_)
            refine tq_wv_e (fun z5 h => ?_)
            exact ac_X12_fillRow_87 hR h
      · replace h := h.2 hc
        exact ac_X12_fillRow_39 hR h
  · replace h := h.2 hc
    refine tq_s_aload_n (kk := 0) (by decide +kernel) rfl ?_
    refine fg_12_27_51 rfl (by decide +kernel) ?_
    refine tq_s_iload (i := 4) (by decide +kernel) rfl ?_
    refine tq_s_dup2_11 (by decide +kernel) rfl rfl ?_
    refine tq_s_lald (by decide +kernel) sh_55 h.1 ?_
    replace h := h.2
    refine tq_s_lload (i := 5) (by decide +kernel) rfl ?_
    refine tq_s_ladd (by decide +kernel) ?_
    refine tq_g_last (by decide +kernel) sh_55 h.1 (fun z6 ez6 => ?_)
    replace h := h.2 z6 ez6
    exact tq_ret_v (st := []) (by decide +kernel) rfl h
theorem am_X12_fillRow {K : Nat × (Nat → Int32)} : ∀ (n : Nat) {x : Nat} {a1 : Int32} {a2 : Int32} {a3 : Int32} {a4 : Int32} {a5 : Int64} {z : tq_S} {Q : tq_O → tq_S → Prop} (h : wm_X12_fillRow n a1 a2 a3 a4 a5 z Q), tq_M K (0 + n) x mm_X12_fillRow [.ref 51, .int a1, .int a2, .int a3, .int a4, .long a5] z Q
  | 0, _, _, _, _, _, _, _, _, h => False.elim h
  | n + 1, _, _, _, _, _, _, _, _, h => ae_X12_fillRow (n := n) (fun _ _ _ _ _ _ _ h => am_X12_fillRow n h) h
def wc_X12_count_23 (B2 : Int32 → tq_S → Prop) (Q : tq_O → tq_S → Prop) (a1 : Int32) (s0 : Int64) (s1 : Int32) (z : tq_S) : Prop := vp_in s1 256 ∧ ∀ z101 : tq_S, z101 = tq_sal z 54 (vp_updL (tq_al z 54) (Int32.toNatClampNeg s1) s0) → ∀ v102 : Int32, v102 = a1 + (1 : Int32) → B2 v102 z101
theorem ac_X12_count_23 {K : Nat × (Nat → Int32)} {x : Nat} {Q : tq_O → tq_S → Prop} {B2 : Int32 → tq_S → Prop} {a1 : Int32} {s0 : Int64} {s1 : Int32} {z : tq_S} (hB2 : ∀ (b1 : Int32) (z : tq_S), B2 b1 z → tq_T K 41 x mm_X12_count 2 [.ref 51, .int b1, .null, .null] [] z Q) (h : wc_X12_count_23 B2 Q a1 s0 s1 z) : tq_T K 41 x mm_X12_count 23 [.ref 51, .int a1, .null, .null] [.long s0, .int s1, .ref 54] z Q := by
  unfold wc_X12_count_23 at h
  refine tq_g_last (by decide +kernel) sh_54 h.1 (fun z101 ez101 => ?_)
  replace h := h.2 z101 ez101
  refine tq_g_iinc (i := 1) (fun v102 => [.ref 51, .int v102, .null, .null]) (by decide +kernel) rfl (1 : Int32) kc_1 (fun _ => rfl) (fun v102 ev102 => ?_)
  replace h := h v102 ev102
  refine tq_s_goto (off := -25) (tgt := 2) (by decide +kernel) (by decide +kernel) ?_
  exact hB2 _ _ h
def wc_X12_count_162 (B32 : Int32 → tq_S → Prop) (B75 : Int32 → tq_S → Prop) (Q : tq_O → tq_S → Prop) (a1 : Int32) (a2 : Int32) (a3 : Int32) (z : tq_S) : Prop := ∀ v101 : Int32, v101 = a3 + (1 : Int32) → B75 v101 z
theorem ac_X12_count_162 {K : Nat × (Nat → Int32)} {x : Nat} {Q : tq_O → tq_S → Prop} {B32 : Int32 → tq_S → Prop} {B75 : Int32 → tq_S → Prop} {a1 : Int32} {a2 : Int32} {a3 : Int32} {z : tq_S} (hB32 : ∀ (b1 : Int32) (z : tq_S), B32 b1 z → tq_T K 41 x mm_X12_count 32 [.ref 51, .int b1, .null, .null] [] z Q) (hB75 : ∀ (b3 : Int32) (z : tq_S), B75 b3 z → tq_T K 41 x mm_X12_count 75 [.ref 51, .int a1, .int a2, .int b3] [] z Q) (h : wc_X12_count_162 B32 B75 Q a1 a2 a3 z) : tq_T K 41 x mm_X12_count 162 [.ref 51, .int a1, .int a2, .int a3] [] z Q := by
  unfold wc_X12_count_162 at h
  refine tq_g_iinc (i := 3) (fun v101 => [.ref 51, .int a1, .int a2, .int v101]) (by decide +kernel) rfl (1 : Int32) kc_1 (fun _ => rfl) (fun v101 ev101 => ?_)
  replace h := h v101 ev101
  refine tq_s_goto (off := -90) (tgt := 75) (by decide +kernel) (by decide +kernel) ?_
  exact hB75 _ _ h
def wc_X12_count_195 (B32 : Int32 → tq_S → Prop) (Q : tq_O → tq_S → Prop) (a1 : Int32) (z : tq_S) : Prop := ∀ v101 : Int32, v101 = a1 + (1 : Int32) → B32 v101 z
theorem ac_X12_count_195 {K : Nat × (Nat → Int32)} {x : Nat} {Q : tq_O → tq_S → Prop} {B32 : Int32 → tq_S → Prop} {a1 : Int32} {z : tq_S} (hB32 : ∀ (b1 : Int32) (z : tq_S), B32 b1 z → tq_T K 41 x mm_X12_count 32 [.ref 51, .int b1, .null, .null] [] z Q) (h : wc_X12_count_195 B32 Q a1 z) : tq_T K 41 x mm_X12_count 195 [.ref 51, .int a1, .null, .null] [] z Q := by
  unfold wc_X12_count_195 at h
  refine tq_g_iinc (i := 1) (fun v101 => [.ref 51, .int v101, .null, .null]) (by decide +kernel) rfl (1 : Int32) kc_1 (fun _ => rfl) (fun v101 ev101 => ?_)
  replace h := h v101 ev101
  refine tq_s_goto (off := -166) (tgt := 32) (by decide +kernel) (by decide +kernel) ?_
  exact hB32 _ _ h
def wb_X12_count_170 (B32 : Int32 → tq_S → Prop) (B170 : Int32 → tq_S → Prop) (Q : tq_O → tq_S → Prop) (a1 : Int32) (a3 : Int32) (z : tq_S) : Prop := (((256 : Int32) ≤ a3 → wc_X12_count_195 B32 Q a1 z) ∧ (¬ (256 : Int32) ≤ a3 → vp_in a3 256 ∧ vp_in a3 256 ∧ ∀ z101 : tq_S, z101 = tq_sal z 54 (vp_updL (tq_al z 54) (Int32.toNatClampNeg a3) (tq_al z 55 (Int32.toNatClampNeg a3))) → ∀ v102 : Int32, v102 = a3 + (1 : Int32) → B170 v102 z101))
def wc_X12_count_170 (B32 : Int32 → tq_S → Prop) (Q : tq_O → tq_S → Prop) (a1 : Int32) (a3 : Int32) (z : tq_S) : Prop := tq_lp (σ := Int32 × tq_S) (fun B s => wb_X12_count_170 B32 (fun b3 z => B (b3, z)) Q a1 s.1 s.2) (a3, z)
theorem ab_X12_count_170 {K : Nat × (Nat → Int32)} {x : Nat} {Q : tq_O → tq_S → Prop} {B32 : Int32 → tq_S → Prop} {B170 : Int32 → tq_S → Prop} {a1 : Int32} {a3 : Int32} {z : tq_S} (hB32 : ∀ (b1 : Int32) (z : tq_S), B32 b1 z → tq_T K 41 x mm_X12_count 32 [.ref 51, .int b1, .null, .null] [] z Q) (hB170 : ∀ (b3 : Int32) (z : tq_S), B170 b3 z → tq_T K 41 x mm_X12_count 170 [.ref 51, .int a1, .null, .int b3] [] z Q) (h : wb_X12_count_170 B32 B170 Q a1 a3 z) : tq_T K 41 x mm_X12_count 170 [.ref 51, .int a1, .null, .int a3] [] z Q := by
  unfold wb_X12_count_170 at h
  refine tq_s_iload_n (kk := 3) (by decide +kernel) rfl ?_
  refine tq_k_si (n := 256) (v := (256 : Int32)) (by decide +kernel) ks_256 ?_
  refine tq_icmp_ge (off := 21) (tgt := 195) (by decide +kernel) (by decide +kernel) (fun hc => ?_) (fun hc => ?_)
  · replace h := h.1 hc
    exact tq_to (tq_lk1 (tq_lk1 (tq_lk1 (tq_ld1 tq_l0)))) (ac_X12_count_195 hB32 h)
  · replace h := h.2 hc
    refine tq_s_aload_n (kk := 0) (by decide +kernel) rfl ?_
    refine fg_12_23_51 rfl (by decide +kernel) ?_
    refine tq_s_iload_n (kk := 3) (by decide +kernel) rfl ?_
    refine tq_s_aload_n (kk := 0) (by decide +kernel) rfl ?_
    refine fg_12_27_51 rfl (by decide +kernel) ?_
    refine tq_s_iload_n (kk := 3) (by decide +kernel) rfl ?_
    refine tq_s_lald (by decide +kernel) sh_55 h.1 ?_
    replace h := h.2
    refine tq_g_last (by decide +kernel) sh_54 h.1 (fun z101 ez101 => ?_)
    replace h := h.2 z101 ez101
    refine tq_g_iinc (i := 3) (fun v102 => [.ref 51, .int a1, .null, .int v102]) (by decide +kernel) rfl (1 : Int32) kc_1 (fun _ => rfl) (fun v102 ev102 => ?_)
    replace h := h v102 ev102
    refine tq_s_goto (off := -22) (tgt := 170) (by decide +kernel) (by decide +kernel) ?_
    exact hB170 _ _ h
theorem ac_X12_count_170 {K : Nat × (Nat → Int32)} {x : Nat} {Q : tq_O → tq_S → Prop} {B32 : Int32 → tq_S → Prop} {a1 : Int32} {a3 : Int32} {z : tq_S} (hB32 : ∀ (b1 : Int32) (z : tq_S), B32 b1 z → tq_T K 41 x mm_X12_count 32 [.ref 51, .int b1, .null, .null] [] z Q) (h : wc_X12_count_170 B32 Q a1 a3 z) : tq_T K 41 x mm_X12_count 170 [.ref 51, .int a1, .null, .int a3] [] z Q :=
  tq_lp_T (σ := Int32 × tq_S) (s := (a3, z)) (G := fun s => tq_T K 41 x mm_X12_count 170 [.ref 51, .int a1, .null, .int s.1] [] s.2 Q) (fun B hB s h => ab_X12_count_170 hB32 (fun b3 z h => hB (b3, z) h) h) h
def wc_X12_count_168 (B32 : Int32 → tq_S → Prop) (Q : tq_O → tq_S → Prop) (a1 : Int32) (z : tq_S) : Prop := wc_X12_count_170 B32 Q a1 (0 : Int32) z
theorem ac_X12_count_168 {K : Nat × (Nat → Int32)} {x : Nat} {Q : tq_O → tq_S → Prop} {B32 : Int32 → tq_S → Prop} {a1 : Int32} {z : tq_S} (hB32 : ∀ (b1 : Int32) (z : tq_S), B32 b1 z → tq_T K 41 x mm_X12_count 32 [.ref 51, .int b1, .null, .null] [] z Q) (h : wc_X12_count_168 B32 Q a1 z) : tq_T K 41 x mm_X12_count 168 [.ref 51, .int a1, .null, .null] [] z Q := by
  unfold wc_X12_count_168 at h
  refine tq_k_ic (n := 0) (v := (0 : Int32)) (by decide +kernel) kc_0 ?_
  refine tq_s_istore_n (kk := 3) (L9 := [.ref 51, .int a1, .null, .int (0 : Int32)]) (by decide +kernel) (by decide) rfl ?_
  exact ac_X12_count_170 hB32 h
def wb_X12_count_75 (B32 : Int32 → tq_S → Prop) (B75 : Int32 → tq_S → Prop) (Q : tq_O → tq_S → Prop) (a1 : Int32) (a2 : Int32) (a3 : Int32) (z : tq_S) : Prop := ((((1 : Int32) <<< ((tq_fi z 3265) &&& 31)) ≤ a3 → wc_X12_count_168 B32 Q a1 z) ∧ (¬ ((1 : Int32) <<< ((tq_fi z 3265) &&& 31)) ≤ a3 → vp_in a3 256 ∧ (((tq_al z 54 (Int32.toNatClampNeg a3)) ≤ (0 : Int64) → wc_X12_count_162 B32 B75 Q a1 a2 a3 z) ∧ (¬ (tq_al z 54 (Int32.toNatClampNeg a3)) ≤ (0 : Int64) → vp_in a3 256 ∧ wm_X12_fillRow 40 a1 (0 : Int32) a3 (0 : Int32) (tq_al z 54 (Int32.toNatClampNeg a3)) z (tq_wv fun z101 => (((tq_fi z101 3267) = 0 → wc_X12_count_162 B32 B75 Q a1 a2 a3 z101) ∧ (¬ (tq_fi z101 3267) = 0 → wm_X12_isLeft (0 : Int32) a1 z101 (tq_wi fun r103 z102 => ((r103 = 0 → wc_X12_count_162 B32 B75 Q a1 a2 a3 z102) ∧ (¬ r103 = 0 → wm_X12_isLeft ((tq_fi z102 3265) - (1 : Int32)) a1 z102 (tq_wi fun r105 z104 => ((r105 = 0 → wc_X12_count_162 B32 B75 Q a1 a2 a3 z104) ∧ (¬ r105 = 0 → ((¬ (a3 &&& a2) = 0 → wc_X12_count_162 B32 B75 Q a1 a2 a3 z104) ∧ ((a3 &&& a2) = 0 → vp_in a3 256 ∧ wm_X12_fillRow 40 a1 (0 : Int32) (a3 ||| a2) (0 : Int32) (tq_al z104 54 (Int32.toNatClampNeg a3)) z104 (tq_wv fun z106 => wc_X12_count_162 B32 B75 Q a1 a2 a3 z106))))))))))))))))
def wc_X12_count_75 (B32 : Int32 → tq_S → Prop) (Q : tq_O → tq_S → Prop) (a1 : Int32) (a2 : Int32) (a3 : Int32) (z : tq_S) : Prop := tq_lp (σ := Int32 × tq_S) (fun B s => wb_X12_count_75 B32 (fun b3 z => B (b3, z)) Q a1 a2 s.1 s.2) (a3, z)
theorem ab_X12_count_75 {K : Nat × (Nat → Int32)} {x : Nat} {Q : tq_O → tq_S → Prop} {B32 : Int32 → tq_S → Prop} {B75 : Int32 → tq_S → Prop} {a1 : Int32} {a2 : Int32} {a3 : Int32} {z : tq_S} (hB32 : ∀ (b1 : Int32) (z : tq_S), B32 b1 z → tq_T K 41 x mm_X12_count 32 [.ref 51, .int b1, .null, .null] [] z Q) (hB75 : ∀ (b3 : Int32) (z : tq_S), B75 b3 z → tq_T K 41 x mm_X12_count 75 [.ref 51, .int a1, .int a2, .int b3] [] z Q) (h : wb_X12_count_75 B32 B75 Q a1 a2 a3 z) : tq_T K 41 x mm_X12_count 75 [.ref 51, .int a1, .int a2, .int a3] [] z Q := by
  unfold wb_X12_count_75 at h
  refine tq_s_iload_n (kk := 3) (by decide +kernel) rfl ?_
  refine tq_k_ic (n := 1) (v := (1 : Int32)) (by decide +kernel) kc_1 ?_
  refine tq_s_aload_n (kk := 0) (by decide +kernel) rfl ?_
  refine fg_12_7_51 rfl (by decide +kernel) ?_
  refine tq_s_ishl (by decide +kernel) ?_
  refine tq_icmp_ge (off := 86) (tgt := 168) (by decide +kernel) (by decide +kernel) (fun hc => ?_) (fun hc => ?_)
  · replace h := h.1 hc
    exact tq_to (tq_lk1 (tq_lk1 (tq_ld1 (tq_ld1 tq_l0)))) (ac_X12_count_168 hB32 h)
  · replace h := h.2 hc
    refine tq_s_aload_n (kk := 0) (by decide +kernel) rfl ?_
    refine fg_12_23_51 rfl (by decide +kernel) ?_
    refine tq_s_iload_n (kk := 3) (by decide +kernel) rfl ?_
    refine tq_s_lald (by decide +kernel) sh_54 h.1 ?_
    replace h := h.2
    refine tq_k_lc (n := 0) (v := (0 : Int64)) (by decide +kernel) (by decide +kernel) ?_
    refine tq_lcmp_le (off := 69) (tgt := 162) (by decide +kernel) (by decide +kernel) (by decide +kernel) (fun hc => ?_) (fun hc => ?_)
    · replace h := h.1 hc
      exact ac_X12_count_162 hB32 hB75 h
    · replace h := h.2 hc
      refine tq_s_aload_n (kk := 0) (by decide +kernel) rfl ?_
      refine tq_s_iload_n (kk := 1) (by decide +kernel) rfl ?_
      refine tq_k_ic (n := 0) (v := (0 : Int32)) (by decide +kernel) kc_0 ?_
      refine tq_s_iload_n (kk := 3) (by decide +kernel) rfl ?_
      refine tq_k_ic (n := 0) (v := (0 : Int32)) (by decide +kernel) kc_0 ?_
      refine tq_s_aload_n (kk := 0) (by decide +kernel) rfl ?_
      refine fg_12_23_51 rfl (by decide +kernel) ?_
      refine tq_s_iload_n (kk := 3) (by decide +kernel) rfl ?_
      refine tq_s_lald (by decide +kernel) sh_54 h.1 ?_
      replace h := h.2
      refine tq_callV (as := [.int a1, .int (0 : Int32), .int a3, .int (0 : Int32), .long (tq_al z 54 (Int32.toNatClampNeg a3))]) (st := []) (d1 := 40) (x1 := 0) (x2 := x) (by decide +kernel) ln_12_195 mf_X12_fillRow rfl sh_51 rfl (by decide) np_X12_fillRow rfl (Nat.le_of_ble_eq_true rfl) (by decide) (Nat.zero_add _).symm (tq_M_mono (am_X12_fillRow 40 h) ?_)
      refine tq_wv_e (fun z101 h => ?_)
      refine tq_s_aload_n (kk := 0) (by decide +kernel) rfl ?_
      refine fg_12_142_51 rfl (by decide +kernel) ?_
      refine tq_if_eq (off := 48) (tgt := 162) (by decide +kernel) (by decide +kernel) (fun hc => ?_) (fun hc => ?_)
      · replace h := h.1 hc
        exact ac_X12_count_162 hB32 hB75 h
      · replace h := h.2 hc
        refine tq_s_aload_n (kk := 0) (by decide +kernel) rfl ?_
        refine tq_k_ic (n := 0) (v := (0 : Int32)) (by decide +kernel) kc_0 ?_
        refine tq_s_iload_n (kk := 1) (by decide +kernel) rfl ?_
        refine tq_callV (as := [.int (0 : Int32), .int a1]) (st := []) (d1 := 0) (x1 := 0) (x2 := x) (by decide +kernel) ln_12_199 mf_X12_isLeft rfl sh_51 rfl (by decide) np_X12_isLeft rfl (Nat.le_of_ble_eq_true rfl) (by decide) (Nat.zero_add _).symm (tq_M_mono (am_X12_isLeft h) ?_)
        refine tq_wi_e (fun r103 z102 h => ?_)
        refine tq_if_eq (off := 39) (tgt := 162) (by decide +kernel) (by decide +kernel) (fun hc => ?_) (fun hc => ?_)
        · replace h := h.1 hc
          exact ac_X12_count_162 hB32 hB75 h
        · replace h := h.2 hc
          refine tq_s_aload_n (kk := 0) (by decide +kernel) rfl ?_
          refine tq_s_aload_n (kk := 0) (by decide +kernel) rfl ?_
          refine fg_12_7_51 rfl (by decide +kernel) ?_
          refine tq_k_ic (n := 1) (v := (1 : Int32)) (by decide +kernel) kc_1 ?_
          refine tq_s_isub (by decide +kernel) ?_
          refine tq_s_iload_n (kk := 1) (by decide +kernel) rfl ?_
          refine tq_callV (as := [.int ((tq_fi z102 3265) - (1 : Int32)), .int a1]) (st := []) (d1 := 0) (x1 := 0) (x2 := x) (by decide +kernel) ln_12_199 mf_X12_isLeft rfl sh_51 rfl (by decide) np_X12_isLeft rfl (Nat.le_of_ble_eq_true rfl) (by decide) (Nat.zero_add _).symm (tq_M_mono (am_X12_isLeft h) ?_)
          refine tq_wi_e (fun r105 z104 h => ?_)
          refine tq_if_eq (off := 25) (tgt := 162) (by decide +kernel) (by decide +kernel) (fun hc => ?_) (fun hc => ?_)
          · replace h := h.1 hc
            exact ac_X12_count_162 hB32 hB75 h
          · replace h := h.2 hc
            refine tq_s_iload_n (kk := 3) (by decide +kernel) rfl ?_
            refine tq_s_iload_n (kk := 2) (by decide +kernel) rfl ?_
            refine tq_s_iand (by decide +kernel) ?_
            refine tq_if_ne (off := 19) (tgt := 162) (by decide +kernel) (by decide +kernel) (fun hc => ?_) (fun hc => ?_)
            · replace h := h.1 hc
              exact ac_X12_count_162 hB32 hB75 h
            · replace h := h.2 hc
              refine tq_s_aload_n (kk := 0) (by decide +kernel) rfl ?_
              refine tq_s_iload_n (kk := 1) (by decide +kernel) rfl ?_
              refine tq_k_ic (n := 0) (v := (0 : Int32)) (by decide +kernel) kc_0 ?_
              refine tq_s_iload_n (kk := 3) (by decide +kernel) rfl ?_
              refine tq_s_iload_n (kk := 2) (by decide +kernel) rfl ?_
              refine tq_s_ior (by decide +kernel) ?_
              refine tq_k_ic (n := 0) (v := (0 : Int32)) (by decide +kernel) kc_0 ?_
              refine tq_s_aload_n (kk := 0) (by decide +kernel) rfl ?_
              refine fg_12_23_51 rfl (by decide +kernel) ?_
              refine tq_s_iload_n (kk := 3) (by decide +kernel) rfl ?_
              refine tq_s_lald (by decide +kernel) sh_54 h.1 ?_
              replace h := h.2
              refine tq_callV (as := [.int a1, .int (0 : Int32), .int (a3 ||| a2), .int (0 : Int32), .long (tq_al z104 54 (Int32.toNatClampNeg a3))]) (st := []) (d1 := 40) (x1 := 0) (x2 := x) (by decide +kernel) ln_12_195 mf_X12_fillRow rfl sh_51 rfl (by decide) np_X12_fillRow rfl (Nat.le_of_ble_eq_true rfl) (by decide) (Nat.zero_add _).symm (tq_M_mono (am_X12_fillRow 40 h) ?_)
              refine tq_wv_e (fun z106 h => ?_)
              exact ac_X12_count_162 hB32 hB75 h
theorem ac_X12_count_75 {K : Nat × (Nat → Int32)} {x : Nat} {Q : tq_O → tq_S → Prop} {B32 : Int32 → tq_S → Prop} {a1 : Int32} {a2 : Int32} {a3 : Int32} {z : tq_S} (hB32 : ∀ (b1 : Int32) (z : tq_S), B32 b1 z → tq_T K 41 x mm_X12_count 32 [.ref 51, .int b1, .null, .null] [] z Q) (h : wc_X12_count_75 B32 Q a1 a2 a3 z) : tq_T K 41 x mm_X12_count 75 [.ref 51, .int a1, .int a2, .int a3] [] z Q :=
  tq_lp_T (σ := Int32 × tq_S) (s := (a3, z)) (G := fun s => tq_T K 41 x mm_X12_count 75 [.ref 51, .int a1, .int a2, .int s.1] [] s.2 Q) (fun B hB s h => ab_X12_count_75 hB32 (fun b3 z h => hB (b3, z) h) h) h
def wc_X12_count_62 (B32 : Int32 → tq_S → Prop) (Q : tq_O → tq_S → Prop) (a1 : Int32) (z : tq_S) : Prop := ∀ v101 : Int32, v101 = ((1 : Int32) ||| ((1 : Int32) <<< (((tq_fi z 3265) - (1 : Int32)) &&& 31))) → wc_X12_count_75 B32 Q a1 v101 (0 : Int32) z
theorem ac_X12_count_62 {K : Nat × (Nat → Int32)} {x : Nat} {Q : tq_O → tq_S → Prop} {B32 : Int32 → tq_S → Prop} {a1 : Int32} {z : tq_S} (hB32 : ∀ (b1 : Int32) (z : tq_S), B32 b1 z → tq_T K 41 x mm_X12_count 32 [.ref 51, .int b1, .null, .null] [] z Q) (h : wc_X12_count_62 B32 Q a1 z) : tq_T K 41 x mm_X12_count 62 [.ref 51, .int a1, .null, .null] [] z Q := by
  unfold wc_X12_count_62 at h
  refine tq_k_ic (n := 1) (v := (1 : Int32)) (by decide +kernel) kc_1 ?_
  refine tq_k_ic (n := 1) (v := (1 : Int32)) (by decide +kernel) kc_1 ?_
  refine tq_s_aload_n (kk := 0) (by decide +kernel) rfl ?_
  refine fg_12_7_51 rfl (by decide +kernel) ?_
  refine tq_k_ic (n := 1) (v := (1 : Int32)) (by decide +kernel) kc_1 ?_
  refine tq_s_isub (by decide +kernel) ?_
  refine tq_s_ishl (by decide +kernel) ?_
  refine tq_s_ior (by decide +kernel) ?_
  refine tq_g_istore_n (kk := 2) (fun v101 => [.ref 51, .int a1, .int v101, .null]) (by decide +kernel) (by decide) (fun _ => rfl) (fun v101 ev101 => ?_)
  replace h := h v101 ev101
  refine tq_k_ic (n := 0) (v := (0 : Int32)) (by decide +kernel) kc_0 ?_
  refine tq_s_istore_n (kk := 3) (L9 := [.ref 51, .int a1, .int v101, .int (0 : Int32)]) (by decide +kernel) (by decide) rfl ?_
  exact ac_X12_count_75 hB32 h
def wb_X12_count_42 (B32 : Int32 → tq_S → Prop) (B42 : Int32 → tq_S → Prop) (Q : tq_O → tq_S → Prop) (a1 : Int32) (a2 : Int32) (z : tq_S) : Prop := (((256 : Int32) ≤ a2 → wc_X12_count_62 B32 Q a1 z) ∧ (¬ (256 : Int32) ≤ a2 → vp_in a2 256 ∧ ∀ z101 : tq_S, z101 = tq_sal z 55 (vp_updL (tq_al z 55) (Int32.toNatClampNeg a2) (0 : Int64)) → ∀ v102 : Int32, v102 = a2 + (1 : Int32) → B42 v102 z101))
def wc_X12_count_42 (B32 : Int32 → tq_S → Prop) (Q : tq_O → tq_S → Prop) (a1 : Int32) (a2 : Int32) (z : tq_S) : Prop := tq_lp (σ := Int32 × tq_S) (fun B s => wb_X12_count_42 B32 (fun b2 z => B (b2, z)) Q a1 s.1 s.2) (a2, z)
theorem ab_X12_count_42 {K : Nat × (Nat → Int32)} {x : Nat} {Q : tq_O → tq_S → Prop} {B32 : Int32 → tq_S → Prop} {B42 : Int32 → tq_S → Prop} {a1 : Int32} {a2 : Int32} {z : tq_S} (hB32 : ∀ (b1 : Int32) (z : tq_S), B32 b1 z → tq_T K 41 x mm_X12_count 32 [.ref 51, .int b1, .null, .null] [] z Q) (hB42 : ∀ (b2 : Int32) (z : tq_S), B42 b2 z → tq_T K 41 x mm_X12_count 42 [.ref 51, .int a1, .int b2, .null] [] z Q) (h : wb_X12_count_42 B32 B42 Q a1 a2 z) : tq_T K 41 x mm_X12_count 42 [.ref 51, .int a1, .int a2, .null] [] z Q := by
  unfold wb_X12_count_42 at h
  refine tq_s_iload_n (kk := 2) (by decide +kernel) rfl ?_
  refine tq_k_si (n := 256) (v := (256 : Int32)) (by decide +kernel) ks_256 ?_
  refine tq_icmp_ge (off := 16) (tgt := 62) (by decide +kernel) (by decide +kernel) (fun hc => ?_) (fun hc => ?_)
  · replace h := h.1 hc
    exact tq_to (tq_lk1 (tq_lk1 (tq_ld1 (tq_lk1 tq_l0)))) (ac_X12_count_62 hB32 h)
  · replace h := h.2 hc
    refine tq_s_aload_n (kk := 0) (by decide +kernel) rfl ?_
    refine fg_12_27_51 rfl (by decide +kernel) ?_
    refine tq_s_iload_n (kk := 2) (by decide +kernel) rfl ?_
    refine tq_k_lc (n := 0) (v := (0 : Int64)) (by decide +kernel) (by decide +kernel) ?_
    refine tq_g_last (by decide +kernel) sh_55 h.1 (fun z101 ez101 => ?_)
    replace h := h.2 z101 ez101
    refine tq_g_iinc (i := 2) (fun v102 => [.ref 51, .int a1, .int v102, .null]) (by decide +kernel) rfl (1 : Int32) kc_1 (fun _ => rfl) (fun v102 ev102 => ?_)
    replace h := h v102 ev102
    refine tq_s_goto (off := -17) (tgt := 42) (by decide +kernel) (by decide +kernel) ?_
    exact hB42 _ _ h
theorem ac_X12_count_42 {K : Nat × (Nat → Int32)} {x : Nat} {Q : tq_O → tq_S → Prop} {B32 : Int32 → tq_S → Prop} {a1 : Int32} {a2 : Int32} {z : tq_S} (hB32 : ∀ (b1 : Int32) (z : tq_S), B32 b1 z → tq_T K 41 x mm_X12_count 32 [.ref 51, .int b1, .null, .null] [] z Q) (h : wc_X12_count_42 B32 Q a1 a2 z) : tq_T K 41 x mm_X12_count 42 [.ref 51, .int a1, .int a2, .null] [] z Q :=
  tq_lp_T (σ := Int32 × tq_S) (s := (a2, z)) (G := fun s => tq_T K 41 x mm_X12_count 42 [.ref 51, .int a1, .int s.1, .null] [] s.2 Q) (fun B hB s h => ab_X12_count_42 hB32 (fun b2 z h => hB (b2, z) h) h) h
def wc_X12_count_201 (Q : tq_O → tq_S → Prop)  (z : tq_S) : Prop := Q (.inl (some (.long (tq_al z 54 (Int32.toNatClampNeg (0 : Int32)))))) z
theorem ac_X12_count_201 {K : Nat × (Nat → Int32)} {x : Nat} {Q : tq_O → tq_S → Prop}  {z : tq_S} (h : wc_X12_count_201 Q z) : tq_T K 41 x mm_X12_count 201 [.ref 51, .null, .null, .null] [] z Q := by
  unfold wc_X12_count_201 at h
  refine tq_s_aload_n (kk := 0) (by decide +kernel) rfl ?_
  refine fg_12_23_51 rfl (by decide +kernel) ?_
  refine tq_k_ic (n := 0) (v := (0 : Int32)) (by decide +kernel) kc_0 ?_
  refine tq_s_lald (by decide +kernel) sh_54 vi_0_256 ?_
  exact tq_ret_l (st := []) (by decide +kernel) rfl h
def wb_X12_count_32 (B32 : Int32 → tq_S → Prop) (Q : tq_O → tq_S → Prop) (a1 : Int32) (z : tq_S) : Prop := (((tq_fi z 3266) ≤ a1 → wc_X12_count_201 Q z) ∧ (¬ (tq_fi z 3266) ≤ a1 → wc_X12_count_42 B32 Q a1 (0 : Int32) z))
def wc_X12_count_32 (Q : tq_O → tq_S → Prop) (a1 : Int32) (z : tq_S) : Prop := tq_lp (σ := Int32 × tq_S) (fun B s => wb_X12_count_32 (fun b1 z => B (b1, z)) Q s.1 s.2) (a1, z)
theorem ab_X12_count_32 {K : Nat × (Nat → Int32)} {x : Nat} {Q : tq_O → tq_S → Prop} {B32 : Int32 → tq_S → Prop} {a1 : Int32} {z : tq_S} (hB32 : ∀ (b1 : Int32) (z : tq_S), B32 b1 z → tq_T K 41 x mm_X12_count 32 [.ref 51, .int b1, .null, .null] [] z Q) (h : wb_X12_count_32 B32 Q a1 z) : tq_T K 41 x mm_X12_count 32 [.ref 51, .int a1, .null, .null] [] z Q := by
  unfold wb_X12_count_32 at h
  refine tq_s_iload_n (kk := 1) (by decide +kernel) rfl ?_
  refine tq_s_aload_n (kk := 0) (by decide +kernel) rfl ?_
  refine fg_12_13_51 rfl (by decide +kernel) ?_
  refine tq_icmp_ge (off := 164) (tgt := 201) (by decide +kernel) (by decide +kernel) (fun hc => ?_) (fun hc => ?_)
  · replace h := h.1 hc
    exact tq_to (tq_lk1 (tq_ld1 (tq_lk1 (tq_lk1 tq_l0)))) (ac_X12_count_201 h)
  · replace h := h.2 hc
    refine tq_k_ic (n := 0) (v := (0 : Int32)) (by decide +kernel) kc_0 ?_
    refine tq_s_istore_n (kk := 2) (L9 := [.ref 51, .int a1, .int (0 : Int32), .null]) (by decide +kernel) (by decide) rfl ?_
    exact ac_X12_count_42 hB32 h
theorem ac_X12_count_32 {K : Nat × (Nat → Int32)} {x : Nat} {Q : tq_O → tq_S → Prop} {a1 : Int32} {z : tq_S} (h : wc_X12_count_32 Q a1 z) : tq_T K 41 x mm_X12_count 32 [.ref 51, .int a1, .null, .null] [] z Q :=
  tq_lp_T (σ := Int32 × tq_S) (s := (a1, z)) (G := fun s => tq_T K 41 x mm_X12_count 32 [.ref 51, .int s.1, .null, .null] [] s.2 Q) (fun B hB s h => ab_X12_count_32 (fun b1 z h => hB (b1, z) h) h) h
def wc_X12_count_30 (Q : tq_O → tq_S → Prop)  (z : tq_S) : Prop := wc_X12_count_32 Q (0 : Int32) z
theorem ac_X12_count_30 {K : Nat × (Nat → Int32)} {x : Nat} {Q : tq_O → tq_S → Prop}  {z : tq_S} (h : wc_X12_count_30 Q z) : tq_T K 41 x mm_X12_count 30 [.ref 51, .null, .null, .null] [] z Q := by
  unfold wc_X12_count_30 at h
  refine tq_k_ic (n := 0) (v := (0 : Int32)) (by decide +kernel) kc_0 ?_
  refine tq_s_istore_n (kk := 1) (L9 := [.ref 51, .int (0 : Int32), .null, .null]) (by decide +kernel) (by decide) rfl ?_
  exact ac_X12_count_32 h
def wb_X12_count_2 (B2 : Int32 → tq_S → Prop) (Q : tq_O → tq_S → Prop) (a1 : Int32) (z : tq_S) : Prop := (((256 : Int32) ≤ a1 → wc_X12_count_30 Q z) ∧ (¬ (256 : Int32) ≤ a1 → ((¬ a1 = 0 → wc_X12_count_23 B2 Q a1 (0 : Int64) a1 z) ∧ (a1 = 0 → wc_X12_count_23 B2 Q a1 (1 : Int64) a1 z))))
def wc_X12_count_2 (Q : tq_O → tq_S → Prop) (a1 : Int32) (z : tq_S) : Prop := tq_lp (σ := Int32 × tq_S) (fun B s => wb_X12_count_2 (fun b1 z => B (b1, z)) Q s.1 s.2) (a1, z)
theorem ab_X12_count_2 {K : Nat × (Nat → Int32)} {x : Nat} {Q : tq_O → tq_S → Prop} {B2 : Int32 → tq_S → Prop} {a1 : Int32} {z : tq_S} (hB2 : ∀ (b1 : Int32) (z : tq_S), B2 b1 z → tq_T K 41 x mm_X12_count 2 [.ref 51, .int b1, .null, .null] [] z Q) (h : wb_X12_count_2 B2 Q a1 z) : tq_T K 41 x mm_X12_count 2 [.ref 51, .int a1, .null, .null] [] z Q := by
  unfold wb_X12_count_2 at h
  refine tq_s_iload_n (kk := 1) (by decide +kernel) rfl ?_
  refine tq_k_si (n := 256) (v := (256 : Int32)) (by decide +kernel) ks_256 ?_
  refine tq_icmp_ge (off := 24) (tgt := 30) (by decide +kernel) (by decide +kernel) (fun hc => ?_) (fun hc => ?_)
  · replace h := h.1 hc
    exact tq_to (tq_lk1 (tq_ld1 (tq_lk1 (tq_lk1 tq_l0)))) (ac_X12_count_30 h)
  · replace h := h.2 hc
    refine tq_s_aload_n (kk := 0) (by decide +kernel) rfl ?_
    refine fg_12_23_51 rfl (by decide +kernel) ?_
    refine tq_s_iload_n (kk := 1) (by decide +kernel) rfl ?_
    refine tq_s_iload_n (kk := 1) (by decide +kernel) rfl ?_
    refine tq_if_ne (off := 7) (tgt := 22) (by decide +kernel) (by decide +kernel) (fun hc => ?_) (fun hc => ?_)
    · replace h := h.1 hc
      refine tq_k_lc (n := 0) (v := (0 : Int64)) (by decide +kernel) (by decide +kernel) ?_
      exact ac_X12_count_23 hB2 h
    · replace h := h.2 hc
      refine tq_k_lc (n := 1) (v := (1 : Int64)) (by decide +kernel) (by decide +kernel) ?_
      refine tq_s_goto (off := 4) (tgt := 23) (by decide +kernel) (by decide +kernel) ?_
      exact ac_X12_count_23 hB2 h
theorem ac_X12_count_2 {K : Nat × (Nat → Int32)} {x : Nat} {Q : tq_O → tq_S → Prop} {a1 : Int32} {z : tq_S} (h : wc_X12_count_2 Q a1 z) : tq_T K 41 x mm_X12_count 2 [.ref 51, .int a1, .null, .null] [] z Q :=
  tq_lp_T (σ := Int32 × tq_S) (s := (a1, z)) (G := fun s => tq_T K 41 x mm_X12_count 2 [.ref 51, .int s.1, .null, .null] [] s.2 Q) (fun B hB s h => ab_X12_count_2 (fun b1 z h => hB (b1, z) h) h) h
def wm_X12_count  (z : tq_S) (Q : tq_O → tq_S → Prop) : Prop := wc_X12_count_2 Q (0 : Int32) z
theorem am_X12_count {K : Nat × (Nat → Int32)} {x : Nat} {z : tq_S} {Q : tq_O → tq_S → Prop}  (h : wm_X12_count z Q) : tq_M K 41 x mm_X12_count [.ref 51] z Q := by
  unfold wm_X12_count at h
  refine tq_enter (L := [.ref 51, .null, .null, .null]) mf_X12_count.1 rfl rfl (Nat.le_of_ble_eq_true rfl) ?_
  refine tq_k_ic (n := 0) (v := (0 : Int32)) (by decide +kernel) kc_0 ?_
  refine tq_s_istore_n (kk := 1) (L9 := [.ref 51, .int (0 : Int32), .null, .null]) (by decide +kernel) (by decide) rfl ?_
  exact ac_X12_count_2 h
def wm_X12_countAll  (z : tq_S) (Q : tq_O → tq_S → Prop) : Prop := wm_X12_all z (tq_wv fun z1 => wm_X12_count z1 (tq_wl fun r3 z2 => Q (.inl (some (.long r3))) z2))
theorem am_X12_countAll {K : Nat × (Nat → Int32)} {x : Nat} {z : tq_S} {Q : tq_O → tq_S → Prop}  (h : wm_X12_countAll z Q) : tq_M K 42 x mm_X12_countAll [.ref 51] z Q := by
  unfold wm_X12_countAll at h
  refine tq_enter (L := [.ref 51]) mf_X12_countAll.1 rfl rfl (Nat.le_of_ble_eq_true rfl) ?_
  refine tq_s_aload_n (kk := 0) (by decide +kernel) rfl ?_
  refine tq_callV (as := []) (st := []) (d1 := 0) (x1 := 0) (x2 := x) (by decide +kernel) ln_12_202 mf_X12_all rfl sh_51 rfl (by decide) np_X12_all rfl (Nat.le_of_ble_eq_true rfl) (by decide) (Nat.zero_add _).symm (tq_M_mono (am_X12_all h) ?_)
  refine tq_wv_e (fun z1 h => ?_)
  refine tq_s_aload_n (kk := 0) (by decide +kernel) rfl ?_
  refine tq_callV (as := []) (st := []) (d1 := 41) (x1 := 0) (x2 := x) (by decide +kernel) ln_12_205 mf_X12_count rfl sh_51 rfl (by decide) np_X12_count rfl (Nat.le_of_ble_eq_true rfl) (by decide) (Nat.zero_add _).symm (tq_M_mono (am_X12_count h) ?_)
  refine tq_wl_e (fun r3 z2 h => ?_)
  exact tq_ret_l (st := []) (by decide +kernel) rfl h
