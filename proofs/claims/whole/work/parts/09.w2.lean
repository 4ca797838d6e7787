def wc_law_2748 (K : Nat × (Nat → Int32)) (B28 : Int32 → tq_S → Prop) (Q : tq_O → tq_S → Prop) (a5 : Int32) (z : tq_S) : Prop := ∀ v101 : Int32, v101 = a5 + (4 : Int32) → B28 v101 z
theorem ac_law_2748 {K : Nat × (Nat → Int32)} {x : Nat} {Q : tq_O → tq_S → Prop} {B28 : Int32 → tq_S → Prop} {a5 : Int32} {z : tq_S} (hB28 : ∀ (b5 : Int32) (z : tq_S), B28 b5 z → tq_T K 93 x mm_law 28 [.ref 902, .ref 0, .ref 51, .ref 87, .ref 88, .int b5, .null, .null, .null] [] z Q) (h : wc_law_2748 K B28 Q a5 z) : tq_T K 93 x mm_law 2748 [.ref 902, .ref 0, .ref 51, .ref 87, .ref 88, .int a5, .null, .null, .null] [] z Q := by
  unfold wc_law_2748 at h
  refine tq_g_iinc (i := 5) (fun v101 => [.ref 902, .ref 0, .ref 51, .ref 87, .ref 88, .int v101, .null, .null, .null]) (by decide +kernel) rfl (4 : Int32) kc_4 (fun _ => rfl) (fun v101 ev101 => ?_)
  replace h := h v101 ev101
  refine tq_s_goto (off := -2723) (tgt := 28) (by decide +kernel) (by decide +kernel) ?_
  exact hB28 _ _ h
def wc_law_2735 (K : Nat × (Nat → Int32)) (B28 : Int32 → tq_S → Prop) (Q : tq_O → tq_S → Prop) (a5 : Int32) (z : tq_S) : Prop := wm_X11_isSound z (tq_wi fun r102 z101 => wm_X12_isSound z101 (tq_wi fun r104 z103 => ((r102 = r104 → wc_law_2748 K B28 Q a5 z103) ∧ (¬ r102 = r104 → Q (.inl (some (.int (0 : Int32)))) z103))))
theorem ac_law_2735 {K : Nat × (Nat → Int32)} {x : Nat} {Q : tq_O → tq_S → Prop} {B28 : Int32 → tq_S → Prop} {a5 : Int32} {z : tq_S} (hB28 : ∀ (b5 : Int32) (z : tq_S), B28 b5 z → tq_T K 93 x mm_law 28 [.ref 902, .ref 0, .ref 51, .ref 87, .ref 88, .int b5, .null, .null, .null] [] z Q) (h : wc_law_2735 K B28 Q a5 z) : tq_T K 93 (x + 1) mm_law 2735 [.ref 902, .ref 0, .ref 51, .ref 87, .ref 88, .int a5, .null, .null, .null] [] z Q := by
  unfold wc_law_2735 at h
  refine tq_s_aload_n (kk := 1) (by decide +kernel) rfl ?_
  refine tq_callV (as := []) (st := []) (d1 := 91) (x1 := 0) (x2 := (x + 1)) (by decide +kernel) ln_13_315 mf_X11_isSound rfl sh_0 rfl (by decide) np_X11_isSound rfl (Nat.le_of_ble_eq_true rfl) (by decide) (Nat.zero_add _).symm (tq_M_mono (am_X11_isSound h) ?_)
  refine tq_wi_e (fun r102 z101 h => ?_)
  refine tq_s_aload_n (kk := 2) (by decide +kernel) rfl ?_
  refine tq_callV (as := []) (st := [.int r102]) (d1 := 0) (x1 := 0) (x2 := (x + 1)) (by decide +kernel) ln_13_318 mf_X12_isSound rfl sh_51 rfl (by decide) np_X12_isSound rfl (Nat.le_of_ble_eq_true rfl) (by decide) (Nat.zero_add _).symm (tq_M_mono (am_X12_isSound h) ?_)
  refine tq_wi_e (fun r104 z103 h => ?_)
  refine tq_icmp_eq (off := 5) (tgt := 2748) (by decide +kernel) (by decide +kernel) (fun hc => ?_) (fun hc => ?_)
  · replace h := h.1 hc
    exact tq_Tx (ac_law_2748 hB28 h)
  · replace h := h.2 hc
    refine tq_k_ic (n := 0) (v := (0 : Int32)) (by decide +kernel) kc_0 ?_
    exact tq_ret_z (st := []) (ty := .boolean) (by decide +kernel) (by decide +kernel) rfl h
def wc_law_2721 (K : Nat × (Nat → Int32)) (B28 : Int32 → tq_S → Prop) (Q : tq_O → tq_S → Prop) (a5 : Int32) (z : tq_S) : Prop := wm_X11_checksum z (tq_wl fun r102 z101 => wm_X12_checksum z101 (tq_wl fun r104 z103 => ((r102 = r104 → wc_law_2748 K B28 Q a5 z103) ∧ (¬ r102 = r104 → Q (.inl (some (.int (0 : Int32)))) z103))))
theorem ac_law_2721 {K : Nat × (Nat → Int32)} {x : Nat} {Q : tq_O → tq_S → Prop} {B28 : Int32 → tq_S → Prop} {a5 : Int32} {z : tq_S} (hB28 : ∀ (b5 : Int32) (z : tq_S), B28 b5 z → tq_T K 93 x mm_law 28 [.ref 902, .ref 0, .ref 51, .ref 87, .ref 88, .int b5, .null, .null, .null] [] z Q) (h : wc_law_2721 K B28 Q a5 z) : tq_T K 93 (x + 1) mm_law 2721 [.ref 902, .ref 0, .ref 51, .ref 87, .ref 88, .int a5, .null, .null, .null] [] z Q := by
  unfold wc_law_2721 at h
  refine tq_s_aload_n (kk := 1) (by decide +kernel) rfl ?_
  refine tq_callV (as := []) (st := []) (d1 := 3) (x1 := 0) (x2 := (x + 1)) (by decide +kernel) ln_13_310 mf_X11_checksum rfl sh_0 rfl (by decide) np_X11_checksum rfl (Nat.le_of_ble_eq_true rfl) (by decide) (Nat.zero_add _).symm (tq_M_mono (am_X11_checksum h) ?_)
  refine tq_wl_e (fun r102 z101 h => ?_)
  refine tq_s_aload_n (kk := 2) (by decide +kernel) rfl ?_
  refine tq_callV (as := []) (st := [.long r102]) (d1 := 2) (x1 := 0) (x2 := (x + 1)) (by decide +kernel) ln_13_314 mf_X12_checksum rfl sh_51 rfl (by decide) np_X12_checksum rfl (Nat.le_of_ble_eq_true rfl) (by decide) (Nat.zero_add _).symm (tq_M_mono (am_X12_checksum h) ?_)
  refine tq_wl_e (fun r104 z103 h => ?_)
  refine tq_lcmp_eq (off := 18) (tgt := 2748) (by decide +kernel) (by decide +kernel) (by decide +kernel) (fun hc => ?_) (fun hc => ?_)
  · replace h := h.1 hc
    exact tq_Tx (ac_law_2748 hB28 h)
  · replace h := h.2 hc
    refine tq_k_ic (n := 0) (v := (0 : Int32)) (by decide +kernel) kc_0 ?_
    exact tq_ret_z (st := []) (ty := .boolean) (by decide +kernel) (by decide +kernel) rfl h
def wc_law_2718 (K : Nat × (Nat → Int32)) (B28 : Int32 → tq_S → Prop) (Q : tq_O → tq_S → Prop) (a5 : Int32) (z : tq_S) : Prop := wc_law_2748 K B28 Q a5 z
theorem ac_law_2718 {K : Nat × (Nat → Int32)} {x : Nat} {Q : tq_O → tq_S → Prop} {B28 : Int32 → tq_S → Prop} {a5 : Int32} {z : tq_S} (hB28 : ∀ (b5 : Int32) (z : tq_S), B28 b5 z → tq_T K 93 x mm_law 28 [.ref 902, .ref 0, .ref 51, .ref 87, .ref 88, .int b5, .null, .null, .null] [] z Q) (h : wc_law_2718 K B28 Q a5 z) : tq_T K 93 x mm_law 2718 [.ref 902, .ref 0, .ref 51, .ref 87, .ref 88, .int a5, .null, .null, .null] [] z Q := by
  unfold wc_law_2718 at h
  refine tq_s_goto (off := 30) (tgt := 2748) (by decide +kernel) (by decide +kernel) ?_
  exact ac_law_2748 hB28 h
def wc_law_2656 (K : Nat × (Nat → Int32)) (B28 : Int32 → tq_S → Prop) (Q : tq_O → tq_S → Prop) (a5 : Int32) (z : tq_S) : Prop := wm_L_meanPart z (tq_wi fun r102 z101 => wm_X12_meanPart z101 (tq_wd fun r104 z103 => wm_X12_thrown z103 (tq_wi fun r106 z105 => ((r106 = r102 → ((¬ r102 = 0 → wc_law_2718 K B28 Q a5 z105) ∧ (r102 = 0 → (((Op.cmpValue (FP.dcmp (tq_ad z105 88 (Int32.toNatClampNeg (0 : Int32))) r104) .l) = 0 → wc_law_2718 K B28 Q a5 z105) ∧ (¬ (Op.cmpValue (FP.dcmp (tq_ad z105 88 (Int32.toNatClampNeg (0 : Int32))) r104) .l) = 0 → (((Op.cmpValue (FP.dcmp (tq_ad z105 88 (Int32.toNatClampNeg (0 : Int32))) (tq_ad z105 88 (Int32.toNatClampNeg (0 : Int32)))) .l) = 0 → Q (.inl (some (.int (0 : Int32)))) z105) ∧ (¬ (Op.cmpValue (FP.dcmp (tq_ad z105 88 (Int32.toNatClampNeg (0 : Int32))) (tq_ad z105 88 (Int32.toNatClampNeg (0 : Int32)))) .l) = 0 → ((¬ (Op.cmpValue (FP.dcmp r104 r104) .l) = 0 → wc_law_2718 K B28 Q a5 z105) ∧ ((Op.cmpValue (FP.dcmp r104 r104) .l) = 0 → Q (.inl (some (.int (0 : Int32)))) z105))))))))) ∧ (¬ r106 = r102 → Q (.inl (some (.int (0 : Int32)))) z105)))))
theorem ac_law_2656 {K : Nat × (Nat → Int32)} {x : Nat} {Q : tq_O → tq_S → Prop} {B28 : Int32 → tq_S → Prop} {a5 : Int32} {z : tq_S} (hB28 : ∀ (b5 : Int32) (z : tq_S), B28 b5 z → tq_T K 93 x mm_law 28 [.ref 902, .ref 0, .ref 51, .ref 87, .ref 88, .int b5, .null, .null, .null] [] z Q) (h : wc_law_2656 K B28 Q a5 z) : tq_T K 93 (x + 1) mm_law 2656 [.ref 902, .ref 0, .ref 51, .ref 87, .ref 88, .int a5, .null, .null, .null] [] z Q := by
  unfold wc_law_2656 at h
  refine tq_s_aload_n (kk := 1) (by decide +kernel) rfl ?_
  refine tq_s_aload (i := 4) (by decide +kernel) rfl ?_
  refine tq_callSH (as := [.ref 0, .ref 88]) (st := []) (d1 := 5) (x1 := 1) (x2 := x) (by decide +kernel) ln_13_306 mf_L_meanPart rfl (by decide) np_L_meanPart rfl (Nat.le_of_ble_eq_true rfl) (by decide) (Nat.add_comm _ _) (tq_M_mono (am_L_meanPart (x := 0) h) ?_)
  refine tq_wi_e (fun r102 z101 h => ?_)
  refine tq_s_istore (i := 6) (L9 := [.ref 902, .ref 0, .ref 51, .ref 87, .ref 88, .int a5, .int r102, .null, .null]) (by decide +kernel) (by decide) rfl ?_
  refine tq_s_aload_n (kk := 2) (by decide +kernel) rfl ?_
  refine tq_callV (as := []) (st := []) (d1 := 3) (x1 := 0) (x2 := x) (by decide +kernel) ln_13_309 mf_X12_meanPart rfl sh_51 rfl (by decide) np_X12_meanPart rfl (Nat.le_of_ble_eq_true rfl) (by decide) (Nat.zero_add _).symm (tq_M_mono (am_X12_meanPart h) ?_)
  refine tq_wd_e (fun r104 z103 h => ?_)
  refine tq_s_dstore (i := 7) (L9 := [.ref 902, .ref 0, .ref 51, .ref 87, .ref 88, .int a5, .int r102, .double r104, .null]) (by decide +kernel) (by decide) rfl ?_
  refine tq_s_aload_n (kk := 2) (by decide +kernel) rfl ?_
  refine tq_callV (as := []) (st := []) (d1 := 0) (x1 := 0) (x2 := x) (by decide +kernel) ln_13_157 mf_X12_thrown rfl sh_51 rfl (by decide) np_X12_thrown rfl (Nat.le_of_ble_eq_true rfl) (by decide) (Nat.zero_add _).symm (tq_M_mono (am_X12_thrown h) ?_)
  refine tq_wi_e (fun r106 z105 h => ?_)
  refine tq_s_iload (i := 6) (by decide +kernel) rfl ?_
  refine tq_icmp_eq (off := 5) (tgt := 2681) (by decide +kernel) (by decide +kernel) (fun hc => ?_) (fun hc => ?_)
  · replace h := h.1 hc
    refine tq_s_iload (i := 6) (by decide +kernel) rfl ?_
    refine tq_if_ne (off := 35) (tgt := 2718) (by decide +kernel) (by decide +kernel) (fun hc => ?_) (fun hc => ?_)
    · replace h := h.1 hc
      exact tq_to (tq_lk1 (tq_lk1 (tq_lk1 (tq_lk1 (tq_lk1 (tq_lk1 (tq_ld1 (tq_ld1 (tq_lk1 tq_l0))))))))) (ac_law_2718 hB28 h)
    · replace h := h.2 hc
      refine tq_s_aload (i := 4) (by decide +kernel) rfl ?_
      refine tq_k_ic (n := 0) (v := (0 : Int32)) (by decide +kernel) kc_0 ?_
      refine tq_s_dald (by decide +kernel) sh_88 vi_0_1 ?_
      refine tq_s_dload (i := 7) (by decide +kernel) rfl ?_
      refine tq_s_dcmp (o := .l) (by decide +kernel) ?_
      refine tq_if_eq (off := 25) (tgt := 2718) (by decide +kernel) (by decide +kernel) (fun hc => ?_) (fun hc => ?_)
      · replace h := h.1 hc
        exact tq_to (tq_lk1 (tq_lk1 (tq_lk1 (tq_lk1 (tq_lk1 (tq_lk1 (tq_ld1 (tq_ld1 (tq_lk1 tq_l0))))))))) (ac_law_2718 hB28 h)
      · replace h := h.2 hc
        refine tq_s_aload (i := 4) (by decide +kernel) rfl ?_
        refine tq_k_ic (n := 0) (v := (0 : Int32)) (by decide +kernel) kc_0 ?_
        refine tq_s_dald (by decide +kernel) sh_88 vi_0_1 ?_
        refine tq_s_aload (i := 4) (by decide +kernel) rfl ?_
        refine tq_k_ic (n := 0) (v := (0 : Int32)) (by decide +kernel) kc_0 ?_
        refine tq_s_dald (by decide +kernel) sh_88 vi_0_1 ?_
        refine tq_s_dcmp (o := .l) (by decide +kernel) ?_
        refine tq_if_eq (off := 11) (tgt := 2716) (by decide +kernel) (by decide +kernel) (fun hc => ?_) (fun hc => ?_)
        · replace h := h.1 hc
          refine tq_k_ic (n := 0) (v := (0 : Int32)) (by decide +kernel) kc_0 ?_
          exact tq_ret_z (st := []) (ty := .boolean) (by decide +kernel) (by decide +kernel) rfl h
        · replace h := h.2 hc
          refine tq_s_dload (i := 7) (by decide +kernel) rfl ?_
          refine tq_s_dload (i := 7) (by decide +kernel) rfl ?_
          refine tq_s_dcmp (o := .l) (by decide +kernel) ?_
          refine tq_if_ne (off := 5) (tgt := 2718) (by decide +kernel) (by decide +kernel) (fun hc => ?_) (fun hc => ?_)
          · replace h := h.1 hc
            exact tq_to (tq_lk1 (tq_lk1 (tq_lk1 (tq_lk1 (tq_lk1 (tq_lk1 (tq_ld1 (tq_ld1 (tq_lk1 tq_l0))))))))) (ac_law_2718 hB28 h)
          · replace h := h.2 hc
            refine tq_k_ic (n := 0) (v := (0 : Int32)) (by decide +kernel) kc_0 ?_
            exact tq_ret_z (st := []) (ty := .boolean) (by decide +kernel) (by decide +kernel) rfl h
  · replace h := h.2 hc
    refine tq_k_ic (n := 0) (v := (0 : Int32)) (by decide +kernel) kc_0 ?_
    exact tq_ret_z (st := []) (ty := .boolean) (by decide +kernel) (by decide +kernel) rfl h
def wc_law_2653 (K : Nat × (Nat → Int32)) (B28 : Int32 → tq_S → Prop) (Q : tq_O → tq_S → Prop) (a5 : Int32) (z : tq_S) : Prop := wc_law_2748 K B28 Q a5 z
theorem ac_law_2653 {K : Nat × (Nat → Int32)} {x : Nat} {Q : tq_O → tq_S → Prop} {B28 : Int32 → tq_S → Prop} {a5 : Int32} {z : tq_S} (hB28 : ∀ (b5 : Int32) (z : tq_S), B28 b5 z → tq_T K 93 x mm_law 28 [.ref 902, .ref 0, .ref 51, .ref 87, .ref 88, .int b5, .null, .null, .null] [] z Q) (h : wc_law_2653 K B28 Q a5 z) : tq_T K 93 x mm_law 2653 [.ref 902, .ref 0, .ref 51, .ref 87, .ref 88, .int a5, .null, .null, .null] [] z Q := by
  unfold wc_law_2653 at h
  refine tq_s_goto (off := 95) (tgt := 2748) (by decide +kernel) (by decide +kernel) ?_
  exact ac_law_2748 hB28 h
def wc_law_2599 (K : Nat × (Nat → Int32)) (B28 : Int32 → tq_S → Prop) (Q : tq_O → tq_S → Prop) (a5 : Int32) (a6 : Int32) (s0 : Int32) (s1 : Int32) (s2 : Int32) (z : tq_S) : Prop := wm_X12_share s2 s1 s0 z (tq_wf fun r102 z101 => wm_X12_thrown z101 (tq_wi fun r104 z103 => ((r104 = a6 → ((¬ a6 = 0 → wc_law_2653 K B28 Q a5 z103) ∧ (a6 = 0 → vf_n64 (FP.f2d r102) ∧ (((Op.cmpValue (FP.dcmp (tq_ad z103 88 (Int32.toNatClampNeg (0 : Int32))) (FP.f2d r102)) .l) = 0 → wc_law_2653 K B28 Q a5 z103) ∧ (¬ (Op.cmpValue (FP.dcmp (tq_ad z103 88 (Int32.toNatClampNeg (0 : Int32))) (FP.f2d r102)) .l) = 0 → (((Op.cmpValue (FP.dcmp (tq_ad z103 88 (Int32.toNatClampNeg (0 : Int32))) (tq_ad z103 88 (Int32.toNatClampNeg (0 : Int32)))) .l) = 0 → Q (.inl (some (.int (0 : Int32)))) z103) ∧ (¬ (Op.cmpValue (FP.dcmp (tq_ad z103 88 (Int32.toNatClampNeg (0 : Int32))) (tq_ad z103 88 (Int32.toNatClampNeg (0 : Int32)))) .l) = 0 → ((¬ (Op.cmpValue (FP.fcmp r102 r102) .l) = 0 → wc_law_2653 K B28 Q a5 z103) ∧ ((Op.cmpValue (FP.fcmp r102 r102) .l) = 0 → Q (.inl (some (.int (0 : Int32)))) z103))))))))) ∧ (¬ r104 = a6 → Q (.inl (some (.int (0 : Int32)))) z103))))
theorem ac_law_2599 {K : Nat × (Nat → Int32)} {x : Nat} {Q : tq_O → tq_S → Prop} {B28 : Int32 → tq_S → Prop} {a5 : Int32} {a6 : Int32} {s0 : Int32} {s1 : Int32} {s2 : Int32} {z : tq_S} (hB28 : ∀ (b5 : Int32) (z : tq_S), B28 b5 z → tq_T K 93 x mm_law 28 [.ref 902, .ref 0, .ref 51, .ref 87, .ref 88, .int b5, .null, .null, .null] [] z Q) (h : wc_law_2599 K B28 Q a5 a6 s0 s1 s2 z) : tq_T K 93 x mm_law 2599 [.ref 902, .ref 0, .ref 51, .ref 87, .ref 88, .int a5, .int a6, .null, .null] [.int s0, .int s1, .int s2, .ref 51] z Q := by
  unfold wc_law_2599 at h
  refine tq_callV (as := [.int s2, .int s1, .int s0]) (st := []) (d1 := 43) (x1 := 0) (x2 := x) (by decide +kernel) ln_13_305 mf_X12_share rfl sh_51 rfl (by decide) np_X12_share rfl (Nat.le_of_ble_eq_true rfl) (by decide) (Nat.zero_add _).symm (tq_M_mono (am_X12_share h) ?_)
  refine tq_wf_e (fun r102 z101 h => ?_)
  refine tq_s_fstore (i := 7) (L9 := [.ref 902, .ref 0, .ref 51, .ref 87, .ref 88, .int a5, .int a6, .float r102, .null]) (by decide +kernel) (by decide) rfl ?_
  refine tq_s_aload_n (kk := 2) (by decide +kernel) rfl ?_
  refine tq_callV (as := []) (st := []) (d1 := 0) (x1 := 0) (x2 := x) (by decide +kernel) ln_13_157 mf_X12_thrown rfl sh_51 rfl (by decide) np_X12_thrown rfl (Nat.le_of_ble_eq_true rfl) (by decide) (Nat.zero_add _).symm (tq_M_mono (am_X12_thrown h) ?_)
  refine tq_wi_e (fun r104 z103 h => ?_)
  refine tq_s_iload (i := 6) (by decide +kernel) rfl ?_
  refine tq_icmp_eq (off := 5) (tgt := 2615) (by decide +kernel) (by decide +kernel) (fun hc => ?_) (fun hc => ?_)
  · replace h := h.1 hc
    refine tq_s_iload (i := 6) (by decide +kernel) rfl ?_
    refine tq_if_ne (off := 36) (tgt := 2653) (by decide +kernel) (by decide +kernel) (fun hc => ?_) (fun hc => ?_)
    · replace h := h.1 hc
      exact tq_to (tq_lk1 (tq_lk1 (tq_lk1 (tq_lk1 (tq_lk1 (tq_lk1 (tq_ld1 (tq_ld1 (tq_lk1 tq_l0))))))))) (ac_law_2653 hB28 h)
    · replace h := h.2 hc
      refine tq_s_aload (i := 4) (by decide +kernel) rfl ?_
      refine tq_k_ic (n := 0) (v := (0 : Int32)) (by decide +kernel) kc_0 ?_
      refine tq_s_dald (by decide +kernel) sh_88 vi_0_1 ?_
      refine tq_s_fload (i := 7) (by decide +kernel) rfl ?_
      refine tq_s_f2d (by decide +kernel) h.1 ?_
      replace h := h.2
      refine tq_s_dcmp (o := .l) (by decide +kernel) ?_
      refine tq_if_eq (off := 25) (tgt := 2653) (by decide +kernel) (by decide +kernel) (fun hc => ?_) (fun hc => ?_)
      · replace h := h.1 hc
        exact tq_to (tq_lk1 (tq_lk1 (tq_lk1 (tq_lk1 (tq_lk1 (tq_lk1 (tq_ld1 (tq_ld1 (tq_lk1 tq_l0))))))))) (ac_law_2653 hB28 h)
      · replace h := h.2 hc
        refine tq_s_aload (i := 4) (by decide +kernel) rfl ?_
        refine tq_k_ic (n := 0) (v := (0 : Int32)) (by decide +kernel) kc_0 ?_
        refine tq_s_dald (by decide +kernel) sh_88 vi_0_1 ?_
        refine tq_s_aload (i := 4) (by decide +kernel) rfl ?_
        refine tq_k_ic (n := 0) (v := (0 : Int32)) (by decide +kernel) kc_0 ?_
        refine tq_s_dald (by decide +kernel) sh_88 vi_0_1 ?_
        refine tq_s_dcmp (o := .l) (by decide +kernel) ?_
        refine tq_if_eq (off := 11) (tgt := 2651) (by decide +kernel) (by decide +kernel) (fun hc => ?_) (fun hc => ?_)
        · replace h := h.1 hc
          refine tq_k_ic (n := 0) (v := (0 : Int32)) (by decide +kernel) kc_0 ?_
          exact tq_ret_z (st := []) (ty := .boolean) (by decide +kernel) (by decide +kernel) rfl h
        · replace h := h.2 hc
          refine tq_s_fload (i := 7) (by decide +kernel) rfl ?_
          refine tq_s_fload (i := 7) (by decide +kernel) rfl ?_
          refine tq_s_fcmp (o := .l) (by decide +kernel) ?_
          refine tq_if_ne (off := 5) (tgt := 2653) (by decide +kernel) (by decide +kernel) (fun hc => ?_) (fun hc => ?_)
          · replace h := h.1 hc
            exact tq_to (tq_lk1 (tq_lk1 (tq_lk1 (tq_lk1 (tq_lk1 (tq_lk1 (tq_ld1 (tq_ld1 (tq_lk1 tq_l0))))))))) (ac_law_2653 hB28 h)
          · replace h := h.2 hc
            refine tq_k_ic (n := 0) (v := (0 : Int32)) (by decide +kernel) kc_0 ?_
            exact tq_ret_z (st := []) (ty := .boolean) (by decide +kernel) (by decide +kernel) rfl h
  · replace h := h.2 hc
    refine tq_k_ic (n := 0) (v := (0 : Int32)) (by decide +kernel) kc_0 ?_
    exact tq_ret_z (st := []) (ty := .boolean) (by decide +kernel) (by decide +kernel) rfl h
def wc_law_2565 (K : Nat × (Nat → Int32)) (B28 : Int32 → tq_S → Prop) (Q : tq_O → tq_S → Prop) (a5 : Int32) (s0 : Int32) (s1 : Int32) (s2 : Int32) (z : tq_S) : Prop := wm_L_share s2 s1 s0 z (tq_wi fun r102 z101 => vp_in (a5 + (1 : Int32)) K.1 ∧ vp_in (a5 + (2 : Int32)) K.1 ∧ vp_in (a5 + (3 : Int32)) K.1 ∧ (((K.2 (Int32.toNatClampNeg (a5 + (3 : Int32)))) = 0 → wc_law_2599 K B28 Q a5 r102 (0 : Int32) (K.2 (Int32.toNatClampNeg (a5 + (2 : Int32)))) (K.2 (Int32.toNatClampNeg (a5 + (1 : Int32)))) z101) ∧ (¬ (K.2 (Int32.toNatClampNeg (a5 + (3 : Int32)))) = 0 → wc_law_2599 K B28 Q a5 r102 (1 : Int32) (K.2 (Int32.toNatClampNeg (a5 + (2 : Int32)))) (K.2 (Int32.toNatClampNeg (a5 + (1 : Int32)))) z101)))
theorem ac_law_2565 {K : Nat × (Nat → Int32)} {x : Nat} {Q : tq_O → tq_S → Prop} {B28 : Int32 → tq_S → Prop} {a5 : Int32} {s0 : Int32} {s1 : Int32} {s2 : Int32} {z : tq_S} (hB28 : ∀ (b5 : Int32) (z : tq_S), B28 b5 z → tq_T K 93 x mm_law 28 [.ref 902, .ref 0, .ref 51, .ref 87, .ref 88, .int b5, .null, .null, .null] [] z Q) (h : wc_law_2565 K B28 Q a5 s0 s1 s2 z) : tq_T K 93 (x + 1) mm_law 2565 [.ref 902, .ref 0, .ref 51, .ref 87, .ref 88, .int a5, .null, .null, .null] [.int s0, .int s1, .int s2, .ref 0] z Q := by
  unfold wc_law_2565 at h
  refine tq_s_aload (i := 4) (by decide +kernel) rfl ?_
  refine tq_callSH (as := [.ref 0, .int s2, .int s1, .int s0, .ref 88]) (st := []) (d1 := 6) (x1 := 1) (x2 := x) (by decide +kernel) ln_13_302 mf_L_share rfl (by decide) np_L_share rfl (Nat.le_of_ble_eq_true rfl) (by decide) (Nat.add_comm _ _) (tq_M_mono (am_L_share (x := 0) h) ?_)
  refine tq_wi_e (fun r102 z101 h => ?_)
  refine tq_s_istore (i := 6) (L9 := [.ref 902, .ref 0, .ref 51, .ref 87, .ref 88, .int a5, .int r102, .null, .null]) (by decide +kernel) (by decide) rfl ?_
  refine tq_s_aload_n (kk := 2) (by decide +kernel) rfl ?_
  refine tq_s_aload_n (kk := 0) (by decide +kernel) rfl ?_
  refine tq_s_iload (i := 5) (by decide +kernel) rfl ?_
  refine tq_k_ic (n := 1) (v := (1 : Int32)) (by decide +kernel) kc_1 ?_
  refine tq_s_iadd (by decide +kernel) ?_
  refine tq_s_caload (b := 902) (n := K.1) (f := K.2) (by decide +kernel) rfl h.1 ?_
  replace h := h.2
  refine tq_s_aload_n (kk := 0) (by decide +kernel) rfl ?_
  refine tq_s_iload (i := 5) (by decide +kernel) rfl ?_
  refine tq_k_ic (n := 2) (v := (2 : Int32)) (by decide +kernel) kc_2 ?_
  refine tq_s_iadd (by decide +kernel) ?_
  refine tq_s_caload (b := 902) (n := K.1) (f := K.2) (by decide +kernel) rfl h.1 ?_
  replace h := h.2
  refine tq_s_aload_n (kk := 0) (by decide +kernel) rfl ?_
  refine tq_s_iload (i := 5) (by decide +kernel) rfl ?_
  refine tq_k_ic (n := 3) (v := (3 : Int32)) (by decide +kernel) kc_3 ?_
  refine tq_s_iadd (by decide +kernel) ?_
  refine tq_s_caload (b := 902) (n := K.1) (f := K.2) (by decide +kernel) rfl h.1 ?_
  replace h := h.2
  refine tq_if_eq (off := 7) (tgt := 2598) (by decide +kernel) (by decide +kernel) (fun hc => ?_) (fun hc => ?_)
  · replace h := h.1 hc
    refine tq_k_ic (n := 0) (v := (0 : Int32)) (by decide +kernel) kc_0 ?_
    exact ac_law_2599 hB28 h
  · replace h := h.2 hc
    refine tq_k_ic (n := 1) (v := (1 : Int32)) (by decide +kernel) kc_1 ?_
    refine tq_s_goto (off := 4) (tgt := 2599) (by decide +kernel) (by decide +kernel) ?_
    exact ac_law_2599 hB28 h
def wc_law_2538 (K : Nat × (Nat → Int32)) (B28 : Int32 → tq_S → Prop) (Q : tq_O → tq_S → Prop) (a5 : Int32) (z : tq_S) : Prop := vp_in (a5 + (1 : Int32)) K.1 ∧ vp_in (a5 + (2 : Int32)) K.1 ∧ vp_in (a5 + (3 : Int32)) K.1 ∧ (((K.2 (Int32.toNatClampNeg (a5 + (3 : Int32)))) = 0 → wc_law_2565 K B28 Q a5 (0 : Int32) (K.2 (Int32.toNatClampNeg (a5 + (2 : Int32)))) (K.2 (Int32.toNatClampNeg (a5 + (1 : Int32)))) z) ∧ (¬ (K.2 (Int32.toNatClampNeg (a5 + (3 : Int32)))) = 0 → wc_law_2565 K B28 Q a5 (1 : Int32) (K.2 (Int32.toNatClampNeg (a5 + (2 : Int32)))) (K.2 (Int32.toNatClampNeg (a5 + (1 : Int32)))) z))
theorem ac_law_2538 {K : Nat × (Nat → Int32)} {x : Nat} {Q : tq_O → tq_S → Prop} {B28 : Int32 → tq_S → Prop} {a5 : Int32} {z : tq_S} (hB28 : ∀ (b5 : Int32) (z : tq_S), B28 b5 z → tq_T K 93 x mm_law 28 [.ref 902, .ref 0, .ref 51, .ref 87, .ref 88, .int b5, .null, .null, .null] [] z Q) (h : wc_law_2538 K B28 Q a5 z) : tq_T K 93 (x + 1) mm_law 2538 [.ref 902, .ref 0, .ref 51, .ref 87, .ref 88, .int a5, .null, .null, .null] [] z Q := by
  unfold wc_law_2538 at h
  refine tq_s_aload_n (kk := 1) (by decide +kernel) rfl ?_
  refine tq_s_aload_n (kk := 0) (by decide +kernel) rfl ?_
  refine tq_s_iload (i := 5) (by decide +kernel) rfl ?_
  refine tq_k_ic (n := 1) (v := (1 : Int32)) (by decide +kernel) kc_1 ?_
  refine tq_s_iadd (by decide +kernel) ?_
  refine tq_s_caload (b := 902) (n := K.1) (f := K.2) (by decide +kernel) rfl h.1 ?_
  replace h := h.2
  refine tq_s_aload_n (kk := 0) (by decide +kernel) rfl ?_
  refine tq_s_iload (i := 5) (by decide +kernel) rfl ?_
  refine tq_k_ic (n := 2) (v := (2 : Int32)) (by decide +kernel) kc_2 ?_
  refine tq_s_iadd (by decide +kernel) ?_
  refine tq_s_caload (b := 902) (n := K.1) (f := K.2) (by decide +kernel) rfl h.1 ?_
  replace h := h.2
  refine tq_s_aload_n (kk := 0) (by decide +kernel) rfl ?_
  refine tq_s_iload (i := 5) (by decide +kernel) rfl ?_
  refine tq_k_ic (n := 3) (v := (3 : Int32)) (by decide +kernel) kc_3 ?_
  refine tq_s_iadd (by decide +kernel) ?_
  refine tq_s_caload (b := 902) (n := K.1) (f := K.2) (by decide +kernel) rfl h.1 ?_
  replace h := h.2
  refine tq_if_eq (off := 7) (tgt := 2564) (by decide +kernel) (by decide +kernel) (fun hc => ?_) (fun hc => ?_)
  · replace h := h.1 hc
    refine tq_k_ic (n := 0) (v := (0 : Int32)) (by decide +kernel) kc_0 ?_
    exact ac_law_2565 hB28 h
  · replace h := h.2 hc
    refine tq_k_ic (n := 1) (v := (1 : Int32)) (by decide +kernel) kc_1 ?_
    refine tq_s_goto (off := 4) (tgt := 2565) (by decide +kernel) (by decide +kernel) ?_
    exact ac_law_2565 hB28 h
def wc_law_2535 (K : Nat × (Nat → Int32)) (B28 : Int32 → tq_S → Prop) (Q : tq_O → tq_S → Prop) (a5 : Int32) (z : tq_S) : Prop := wc_law_2748 K B28 Q a5 z
theorem ac_law_2535 {K : Nat × (Nat → Int32)} {x : Nat} {Q : tq_O → tq_S → Prop} {B28 : Int32 → tq_S → Prop} {a5 : Int32} {z : tq_S} (hB28 : ∀ (b5 : Int32) (z : tq_S), B28 b5 z → tq_T K 93 x mm_law 28 [.ref 902, .ref 0, .ref 51, .ref 87, .ref 88, .int b5, .null, .null, .null] [] z Q) (h : wc_law_2535 K B28 Q a5 z) : tq_T K 93 x mm_law 2535 [.ref 902, .ref 0, .ref 51, .ref 87, .ref 88, .int a5, .null, .null, .null] [] z Q := by
  unfold wc_law_2535 at h
  refine tq_s_goto (off := 213) (tgt := 2748) (by decide +kernel) (by decide +kernel) ?_
  exact ac_law_2748 hB28 h
def wc_law_2494 (K : Nat × (Nat → Int32)) (B28 : Int32 → tq_S → Prop) (Q : tq_O → tq_S → Prop) (a5 : Int32) (z : tq_S) : Prop := wm_L_loops z (tq_wi fun r102 z101 => wm_X12_loops z101 (tq_wi fun r104 z103 => wm_X12_thrown z103 (tq_wi fun r106 z105 => ((r106 = r102 → ((¬ r102 = 0 → wc_law_2535 K B28 Q a5 z105) ∧ (r102 = 0 → (((tq_al z105 87 (Int32.toNatClampNeg (0 : Int32))) = (Int32.toInt64 r104) → wc_law_2535 K B28 Q a5 z105) ∧ (¬ (tq_al z105 87 (Int32.toNatClampNeg (0 : Int32))) = (Int32.toInt64 r104) → Q (.inl (some (.int (0 : Int32)))) z105))))) ∧ (¬ r106 = r102 → Q (.inl (some (.int (0 : Int32)))) z105)))))
theorem ac_law_2494 {K : Nat × (Nat → Int32)} {x : Nat} {Q : tq_O → tq_S → Prop} {B28 : Int32 → tq_S → Prop} {a5 : Int32} {z : tq_S} (hB28 : ∀ (b5 : Int32) (z : tq_S), B28 b5 z → tq_T K 93 x mm_law 28 [.ref 902, .ref 0, .ref 51, .ref 87, .ref 88, .int b5, .null, .null, .null] [] z Q) (h : wc_law_2494 K B28 Q a5 z) : tq_T K 93 (x + 1) mm_law 2494 [.ref 902, .ref 0, .ref 51, .ref 87, .ref 88, .int a5, .null, .null, .null] [] z Q := by
  unfold wc_law_2494 at h
  refine tq_s_aload_n (kk := 1) (by decide +kernel) rfl ?_
  refine tq_s_aload_n (kk := 3) (by decide +kernel) rfl ?_
  refine tq_callSH (as := [.ref 0, .ref 87]) (st := []) (d1 := 5) (x1 := 1) (x2 := x) (by decide +kernel) ln_13_299 mf_L_loops rfl (by decide) np_L_loops rfl (Nat.le_of_ble_eq_true rfl) (by decide) (Nat.add_comm _ _) (tq_M_mono (am_L_loops (x := 0) h) ?_)
  refine tq_wi_e (fun r102 z101 h => ?_)
  refine tq_s_istore (i := 6) (L9 := [.ref 902, .ref 0, .ref 51, .ref 87, .ref 88, .int a5, .int r102, .null, .null]) (by decide +kernel) (by decide) rfl ?_
  refine tq_s_aload_n (kk := 2) (by decide +kernel) rfl ?_
  refine tq_callV (as := []) (st := []) (d1 := 42) (x1 := 0) (x2 := x) (by decide +kernel) ln_13_301 mf_X12_loops rfl sh_51 rfl (by decide) np_X12_loops rfl (Nat.le_of_ble_eq_true rfl) (by decide) (Nat.zero_add _).symm (tq_M_mono (am_X12_loops h) ?_)
  refine tq_wi_e (fun r104 z103 h => ?_)
  refine tq_s_istore (i := 7) (L9 := [.ref 902, .ref 0, .ref 51, .ref 87, .ref 88, .int a5, .int r102, .int r104, .null]) (by decide +kernel) (by decide) rfl ?_
  refine tq_s_aload_n (kk := 2) (by decide +kernel) rfl ?_
  refine tq_callV (as := []) (st := []) (d1 := 0) (x1 := 0) (x2 := x) (by decide +kernel) ln_13_157 mf_X12_thrown rfl sh_51 rfl (by decide) np_X12_thrown rfl (Nat.le_of_ble_eq_true rfl) (by decide) (Nat.zero_add _).symm (tq_M_mono (am_X12_thrown h) ?_)
  refine tq_wi_e (fun r106 z105 h => ?_)
  refine tq_s_iload (i := 6) (by decide +kernel) rfl ?_
  refine tq_icmp_eq (off := 5) (tgt := 2518) (by decide +kernel) (by decide +kernel) (fun hc => ?_) (fun hc => ?_)
  · replace h := h.1 hc
    refine tq_s_iload (i := 6) (by decide +kernel) rfl ?_
    refine tq_if_ne (off := 15) (tgt := 2535) (by decide +kernel) (by decide +kernel) (fun hc => ?_) (fun hc => ?_)
    · replace h := h.1 hc
      exact tq_to (tq_lk1 (tq_lk1 (tq_lk1 (tq_lk1 (tq_lk1 (tq_lk1 (tq_ld1 (tq_ld1 (tq_lk1 tq_l0))))))))) (ac_law_2535 hB28 h)
    · replace h := h.2 hc
      refine tq_s_aload_n (kk := 3) (by decide +kernel) rfl ?_
      refine tq_k_ic (n := 0) (v := (0 : Int32)) (by decide +kernel) kc_0 ?_
      refine tq_s_lald (by decide +kernel) sh_87 vi_0_1 ?_
      refine tq_s_iload (i := 7) (by decide +kernel) rfl ?_
      refine tq_s_i2l (by decide +kernel) ?_
      refine tq_lcmp_eq (off := 5) (tgt := 2535) (by decide +kernel) (by decide +kernel) (by decide +kernel) (fun hc => ?_) (fun hc => ?_)
      · replace h := h.1 hc
        exact tq_to (tq_lk1 (tq_lk1 (tq_lk1 (tq_lk1 (tq_lk1 (tq_lk1 (tq_ld1 (tq_ld1 (tq_lk1 tq_l0))))))))) (ac_law_2535 hB28 h)
      · replace h := h.2 hc
        refine tq_k_ic (n := 0) (v := (0 : Int32)) (by decide +kernel) kc_0 ?_
        exact tq_ret_z (st := []) (ty := .boolean) (by decide +kernel) (by decide +kernel) rfl h
  · replace h := h.2 hc
    refine tq_k_ic (n := 0) (v := (0 : Int32)) (by decide +kernel) kc_0 ?_
    exact tq_ret_z (st := []) (ty := .boolean) (by decide +kernel) (by decide +kernel) rfl h
def wc_law_2481 (K : Nat × (Nat → Int32)) (B28 : Int32 → tq_S → Prop) (Q : tq_O → tq_S → Prop) (a5 : Int32) (z : tq_S) : Prop := wm_X11_mostRooks z (tq_wi fun r102 z101 => wm_X12_mostRooks z101 (tq_wi fun r104 z103 => ((r102 = r104 → wc_law_2748 K B28 Q a5 z103) ∧ (¬ r102 = r104 → Q (.inl (some (.int (0 : Int32)))) z103))))
theorem ac_law_2481 {K : Nat × (Nat → Int32)} {x : Nat} {Q : tq_O → tq_S → Prop} {B28 : Int32 → tq_S → Prop} {a5 : Int32} {z : tq_S} (hB28 : ∀ (b5 : Int32) (z : tq_S), B28 b5 z → tq_T K 93 x mm_law 28 [.ref 902, .ref 0, .ref 51, .ref 87, .ref 88, .int b5, .null, .null, .null] [] z Q) (h : wc_law_2481 K B28 Q a5 z) : tq_T K 93 (x + 1) mm_law 2481 [.ref 902, .ref 0, .ref 51, .ref 87, .ref 88, .int a5, .null, .null, .null] [] z Q := by
  unfold wc_law_2481 at h
  refine tq_s_aload_n (kk := 1) (by decide +kernel) rfl ?_
  refine tq_callV (as := []) (st := []) (d1 := 3) (x1 := 0) (x2 := (x + 1)) (by decide +kernel) ln_13_295 mf_X11_mostRooks rfl sh_0 rfl (by decide) np_X11_mostRooks rfl (Nat.le_of_ble_eq_true rfl) (by decide) (Nat.zero_add _).symm (tq_M_mono (am_X11_mostRooks h) ?_)
  refine tq_wi_e (fun r102 z101 h => ?_)
  refine tq_s_aload_n (kk := 2) (by decide +kernel) rfl ?_
  refine tq_callV (as := []) (st := [.int r102]) (d1 := 2) (x1 := 0) (x2 := (x + 1)) (by decide +kernel) ln_13_298 mf_X12_mostRooks rfl sh_51 rfl (by decide) np_X12_mostRooks rfl (Nat.le_of_ble_eq_true rfl) (by decide) (Nat.zero_add _).symm (tq_M_mono (am_X12_mostRooks h) ?_)
  refine tq_wi_e (fun r104 z103 h => ?_)
  refine tq_icmp_eq (off := 259) (tgt := 2748) (by decide +kernel) (by decide +kernel) (fun hc => ?_) (fun hc => ?_)
  · replace h := h.1 hc
    exact tq_Tx (ac_law_2748 hB28 h)
  · replace h := h.2 hc
    refine tq_k_ic (n := 0) (v := (0 : Int32)) (by decide +kernel) kc_0 ?_
    exact tq_ret_z (st := []) (ty := .boolean) (by decide +kernel) (by decide +kernel) rfl h
def wc_law_2478 (K : Nat × (Nat → Int32)) (B28 : Int32 → tq_S → Prop) (Q : tq_O → tq_S → Prop) (a5 : Int32) (z : tq_S) : Prop := wc_law_2748 K B28 Q a5 z
theorem ac_law_2478 {K : Nat × (Nat → Int32)} {x : Nat} {Q : tq_O → tq_S → Prop} {B28 : Int32 → tq_S → Prop} {a5 : Int32} {z : tq_S} (hB28 : ∀ (b5 : Int32) (z : tq_S), B28 b5 z → tq_T K 93 x mm_law 28 [.ref 902, .ref 0, .ref 51, .ref 87, .ref 88, .int b5, .null, .null, .null] [] z Q) (h : wc_law_2478 K B28 Q a5 z) : tq_T K 93 x mm_law 2478 [.ref 902, .ref 0, .ref 51, .ref 87, .ref 88, .int a5, .null, .null, .null] [] z Q := by
  unfold wc_law_2478 at h
  refine tq_s_goto (off := 270) (tgt := 2748) (by decide +kernel) (by decide +kernel) ?_
  exact ac_law_2748 hB28 h
def wc_law_2425 (K : Nat × (Nat → Int32)) (B28 : Int32 → tq_S → Prop) (Q : tq_O → tq_S → Prop) (a5 : Int32) (z : tq_S) : Prop := vp_in (a5 + (1 : Int32)) K.1 ∧ wm_L_rooks (K.2 (Int32.toNatClampNeg (a5 + (1 : Int32)))) z (tq_wi fun r102 z101 => vp_in (a5 + (1 : Int32)) K.1 ∧ wm_X12_rooks (K.2 (Int32.toNatClampNeg (a5 + (1 : Int32)))) z101 (tq_wi fun r104 z103 => wm_X12_thrown z103 (tq_wi fun r106 z105 => ((r106 = r102 → ((¬ r102 = 0 → wc_law_2478 K B28 Q a5 z105) ∧ (r102 = 0 → (((tq_al z105 87 (Int32.toNatClampNeg (0 : Int32))) = (Int32.toInt64 r104) → wc_law_2478 K B28 Q a5 z105) ∧ (¬ (tq_al z105 87 (Int32.toNatClampNeg (0 : Int32))) = (Int32.toInt64 r104) → Q (.inl (some (.int (0 : Int32)))) z105))))) ∧ (¬ r106 = r102 → Q (.inl (some (.int (0 : Int32)))) z105)))))
theorem ac_law_2425 {K : Nat × (Nat → Int32)} {x : Nat} {Q : tq_O → tq_S → Prop} {B28 : Int32 → tq_S → Prop} {a5 : Int32} {z : tq_S} (hB28 : ∀ (b5 : Int32) (z : tq_S), B28 b5 z → tq_T K 93 x mm_law 28 [.ref 902, .ref 0, .ref 51, .ref 87, .ref 88, .int b5, .null, .null, .null] [] z Q) (h : wc_law_2425 K B28 Q a5 z) : tq_T K 93 (x + 1) mm_law 2425 [.ref 902, .ref 0, .ref 51, .ref 87, .ref 88, .int a5, .null, .null, .null] [] z Q := by
  unfold wc_law_2425 at h
  refine tq_s_aload_n (kk := 1) (by decide +kernel) rfl ?_
  refine tq_s_aload_n (kk := 0) (by decide +kernel) rfl ?_
  refine tq_s_iload (i := 5) (by decide +kernel) rfl ?_
  refine tq_k_ic (n := 1) (v := (1 : Int32)) (by decide +kernel) kc_1 ?_
  refine tq_s_iadd (by decide +kernel) ?_
  refine tq_s_caload (b := 902) (n := K.1) (f := K.2) (by decide +kernel) rfl h.1 ?_
  replace h := h.2
  refine tq_s_aload_n (kk := 3) (by decide +kernel) rfl ?_
  refine tq_callSH (as := [.ref 0, .int (K.2 (Int32.toNatClampNeg (a5 + (1 : Int32)))), .ref 87]) (st := []) (d1 := 5) (x1 := 1) (x2 := x) (by decide +kernel) ln_13_292 mf_L_rooks rfl (by decide) np_L_rooks rfl (Nat.le_of_ble_eq_true rfl) (by decide) (Nat.add_comm _ _) (tq_M_mono (am_L_rooks (x := 0) h) ?_)
  refine tq_wi_e (fun r102 z101 h => ?_)
  refine tq_s_istore (i := 6) (L9 := [.ref 902, .ref 0, .ref 51, .ref 87, .ref 88, .int a5, .int r102, .null, .null]) (by decide +kernel) (by decide) rfl ?_
  refine tq_s_aload_n (kk := 2) (by decide +kernel) rfl ?_
  refine tq_s_aload_n (kk := 0) (by decide +kernel) rfl ?_
  refine tq_s_iload (i := 5) (by decide +kernel) rfl ?_
  refine tq_k_ic (n := 1) (v := (1 : Int32)) (by decide +kernel) kc_1 ?_
  refine tq_s_iadd (by decide +kernel) ?_
  refine tq_s_caload (b := 902) (n := K.1) (f := K.2) (by decide +kernel) rfl h.1 ?_
  replace h := h.2
  refine tq_callV (as := [.int (K.2 (Int32.toNatClampNeg (a5 + (1 : Int32))))]) (st := []) (d1 := 42) (x1 := 0) (x2 := x) (by decide +kernel) ln_13_294 mf_X12_rooks rfl sh_51 rfl (by decide) np_X12_rooks rfl (Nat.le_of_ble_eq_true rfl) (by decide) (Nat.zero_add _).symm (tq_M_mono (am_X12_rooks h) ?_)
  refine tq_wi_e (fun r104 z103 h => ?_)
  refine tq_s_istore (i := 7) (L9 := [.ref 902, .ref 0, .ref 51, .ref 87, .ref 88, .int a5, .int r102, .int r104, .null]) (by decide +kernel) (by decide) rfl ?_
  refine tq_s_aload_n (kk := 2) (by decide +kernel) rfl ?_
  refine tq_callV (as := []) (st := []) (d1 := 0) (x1 := 0) (x2 := x) (by decide +kernel) ln_13_157 mf_X12_thrown rfl sh_51 rfl (by decide) np_X12_thrown rfl (Nat.le_of_ble_eq_true rfl) (by decide) (Nat.zero_add _).symm (tq_M_mono (am_X12_thrown h) ?_)
  refine tq_wi_e (fun r106 z105 h => ?_)
  refine tq_s_iload (i := 6) (by decide +kernel) rfl ?_
  refine tq_icmp_eq (off := 5) (tgt := 2461) (by decide +kernel) (by decide +kernel) (fun hc => ?_) (fun hc => ?_)
  · replace h := h.1 hc
    refine tq_s_iload (i := 6) (by decide +kernel) rfl ?_
    refine tq_if_ne (off := 15) (tgt := 2478) (by decide +kernel) (by decide +kernel) (fun hc => ?_) (fun hc => ?_)
    · replace h := h.1 hc
      exact tq_to (tq_lk1 (tq_lk1 (tq_lk1 (tq_lk1 (tq_lk1 (tq_lk1 (tq_ld1 (tq_ld1 (tq_lk1 tq_l0))))))))) (ac_law_2478 hB28 h)
    · replace h := h.2 hc
      refine tq_s_aload_n (kk := 3) (by decide +kernel) rfl ?_
      refine tq_k_ic (n := 0) (v := (0 : Int32)) (by decide +kernel) kc_0 ?_
      refine tq_s_lald (by decide +kernel) sh_87 vi_0_1 ?_
      refine tq_s_iload (i := 7) (by decide +kernel) rfl ?_
      refine tq_s_i2l (by decide +kernel) ?_
      refine tq_lcmp_eq (off := 5) (tgt := 2478) (by decide +kernel) (by decide +kernel) (by decide +kernel) (fun hc => ?_) (fun hc => ?_)
      · replace h := h.1 hc
        exact tq_to (tq_lk1 (tq_lk1 (tq_lk1 (tq_lk1 (tq_lk1 (tq_lk1 (tq_ld1 (tq_ld1 (tq_lk1 tq_l0))))))))) (ac_law_2478 hB28 h)
      · replace h := h.2 hc
        refine tq_k_ic (n := 0) (v := (0 : Int32)) (by decide +kernel) kc_0 ?_
        exact tq_ret_z (st := []) (ty := .boolean) (by decide +kernel) (by decide +kernel) rfl h
  · replace h := h.2 hc
    refine tq_k_ic (n := 0) (v := (0 : Int32)) (by decide +kernel) kc_0 ?_
    exact tq_ret_z (st := []) (ty := .boolean) (by decide +kernel) (by decide +kernel) rfl h
def wc_law_2422 (K : Nat × (Nat → Int32)) (B28 : Int32 → tq_S → Prop) (Q : tq_O → tq_S → Prop) (a5 : Int32) (z : tq_S) : Prop := wc_law_2748 K B28 Q a5 z
theorem ac_law_2422 {K : Nat × (Nat → Int32)} {x : Nat} {Q : tq_O → tq_S → Prop} {B28 : Int32 → tq_S → Prop} {a5 : Int32} {z : tq_S} (hB28 : ∀ (b5 : Int32) (z : tq_S), B28 b5 z → tq_T K 93 x mm_law 28 [.ref 902, .ref 0, .ref 51, .ref 87, .ref 88, .int b5, .null, .null, .null] [] z Q) (h : wc_law_2422 K B28 Q a5 z) : tq_T K 93 x mm_law 2422 [.ref 902, .ref 0, .ref 51, .ref 87, .ref 88, .int a5, .null, .null, .null] [] z Q := by
  unfold wc_law_2422 at h
  refine tq_s_goto (off := 326) (tgt := 2748) (by decide +kernel) (by decide +kernel) ?_
  exact ac_law_2748 hB28 h
def wc_law_2345 (K : Nat × (Nat → Int32)) (B28 : Int32 → tq_S → Prop) (Q : tq_O → tq_S → Prop) (a5 : Int32) (z : tq_S) : Prop := vp_in (a5 + (1 : Int32)) K.1 ∧ vp_in (a5 + (2 : Int32)) K.1 ∧ vp_in (a5 + (3 : Int32)) K.1 ∧ wm_L_heaps (K.2 (Int32.toNatClampNeg (a5 + (1 : Int32)))) (K.2 (Int32.toNatClampNeg (a5 + (2 : Int32)))) (K.2 (Int32.toNatClampNeg (a5 + (3 : Int32)))) z (tq_wi fun r102 z101 => vp_in (a5 + (1 : Int32)) K.1 ∧ vp_in (a5 + (2 : Int32)) K.1 ∧ vp_in (a5 + (3 : Int32)) K.1 ∧ wm_X12_heaps (K.2 (Int32.toNatClampNeg (a5 + (1 : Int32)))) (K.2 (Int32.toNatClampNeg (a5 + (2 : Int32)))) (K.2 (Int32.toNatClampNeg (a5 + (3 : Int32)))) z101 (tq_wi fun r104 z103 => wm_X12_thrown z103 (tq_wi fun r106 z105 => ((r106 = r102 → ((¬ r102 = 0 → wc_law_2422 K B28 Q a5 z105) ∧ (r102 = 0 → (((tq_al z105 87 (Int32.toNatClampNeg (0 : Int32))) = (Int32.toInt64 r104) → wc_law_2422 K B28 Q a5 z105) ∧ (¬ (tq_al z105 87 (Int32.toNatClampNeg (0 : Int32))) = (Int32.toInt64 r104) → Q (.inl (some (.int (0 : Int32)))) z105))))) ∧ (¬ r106 = r102 → Q (.inl (some (.int (0 : Int32)))) z105)))))
theorem ac_law_2345 {K : Nat × (Nat → Int32)} {x : Nat} {Q : tq_O → tq_S → Prop} {B28 : Int32 → tq_S → Prop} {a5 : Int32} {z : tq_S} (hB28 : ∀ (b5 : Int32) (z : tq_S), B28 b5 z → tq_T K 93 x mm_law 28 [.ref 902, .ref 0, .ref 51, .ref 87, .ref 88, .int b5, .null, .null, .null] [] z Q) (h : wc_law_2345 K B28 Q a5 z) : tq_T K 93 (x + 1) mm_law 2345 [.ref 902, .ref 0, .ref 51, .ref 87, .ref 88, .int a5, .null, .null, .null] [] z Q := by
  unfold wc_law_2345 at h
  refine tq_s_aload_n (kk := 1) (by decide +kernel) rfl ?_
  refine tq_s_aload_n (kk := 0) (by decide +kernel) rfl ?_
  refine tq_s_iload (i := 5) (by decide +kernel) rfl ?_
  refine tq_k_ic (n := 1) (v := (1 : Int32)) (by decide +kernel) kc_1 ?_
  refine tq_s_iadd (by decide +kernel) ?_
  refine tq_s_caload (b := 902) (n := K.1) (f := K.2) (by decide +kernel) rfl h.1 ?_
  replace h := h.2
  refine tq_s_aload_n (kk := 0) (by decide +kernel) rfl ?_
  refine tq_s_iload (i := 5) (by decide +kernel) rfl ?_
  refine tq_k_ic (n := 2) (v := (2 : Int32)) (by decide +kernel) kc_2 ?_
  refine tq_s_iadd (by decide +kernel) ?_
  refine tq_s_caload (b := 902) (n := K.1) (f := K.2) (by decide +kernel) rfl h.1 ?_
  replace h := h.2
  refine tq_s_aload_n (kk := 0) (by decide +kernel) rfl ?_
  refine tq_s_iload (i := 5) (by decide +kernel) rfl ?_
  refine tq_k_ic (n := 3) (v := (3 : Int32)) (by decide +kernel) kc_3 ?_
  refine tq_s_iadd (by decide +kernel) ?_
  refine tq_s_caload (b := 902) (n := K.1) (f := K.2) (by decide +kernel) rfl h.1 ?_
  replace h := h.2
  refine tq_s_aload_n (kk := 3) (by decide +kernel) rfl ?_
  refine tq_callSH (as := [.ref 0, .int (K.2 (Int32.toNatClampNeg (a5 + (1 : Int32)))), .int (K.2 (Int32.toNatClampNeg (a5 + (2 : Int32)))), .int (K.2 (Int32.toNatClampNeg (a5 + (3 : Int32)))), .ref 87]) (st := []) (d1 := 4) (x1 := 1) (x2 := x) (by decide +kernel) ln_13_289 mf_L_heaps rfl (by decide) np_L_heaps rfl (Nat.le_of_ble_eq_true rfl) (by decide) (Nat.add_comm _ _) (tq_M_mono (am_L_heaps (x := 0) h) ?_)
  refine tq_wi_e (fun r102 z101 h => ?_)
  refine tq_s_istore (i := 6) (L9 := [.ref 902, .ref 0, .ref 51, .ref 87, .ref 88, .int a5, .int r102, .null, .null]) (by decide +kernel) (by decide) rfl ?_
  refine tq_s_aload_n (kk := 2) (by decide +kernel) rfl ?_
  refine tq_s_aload_n (kk := 0) (by decide +kernel) rfl ?_
  refine tq_s_iload (i := 5) (by decide +kernel) rfl ?_
  refine tq_k_ic (n := 1) (v := (1 : Int32)) (by decide +kernel) kc_1 ?_
  refine tq_s_iadd (by decide +kernel) ?_
  refine tq_s_caload (b := 902) (n := K.1) (f := K.2) (by decide +kernel) rfl h.1 ?_
  replace h := h.2
  refine tq_s_aload_n (kk := 0) (by decide +kernel) rfl ?_
  refine tq_s_iload (i := 5) (by decide +kernel) rfl ?_
  refine tq_k_ic (n := 2) (v := (2 : Int32)) (by decide +kernel) kc_2 ?_
  refine tq_s_iadd (by decide +kernel) ?_
  refine tq_s_caload (b := 902) (n := K.1) (f := K.2) (by decide +kernel) rfl h.1 ?_
  replace h := h.2
  refine tq_s_aload_n (kk := 0) (by decide +kernel) rfl ?_
  refine tq_s_iload (i := 5) (by decide +kernel) rfl ?_
  refine tq_k_ic (n := 3) (v := (3 : Int32)) (by decide +kernel) kc_3 ?_
  refine tq_s_iadd (by decide +kernel) ?_
  refine tq_s_caload (b := 902) (n := K.1) (f := K.2) (by decide +kernel) rfl h.1 ?_
  replace h := h.2
  refine tq_callV (as := [.int (K.2 (Int32.toNatClampNeg (a5 + (1 : Int32)))), .int (K.2 (Int32.toNatClampNeg (a5 + (2 : Int32)))), .int (K.2 (Int32.toNatClampNeg (a5 + (3 : Int32))))]) (st := []) (d1 := 42) (x1 := 0) (x2 := x) (by decide +kernel) ln_13_291 mf_X12_heaps rfl sh_51 rfl (by decide) np_X12_heaps rfl (Nat.le_of_ble_eq_true rfl) (by decide) (Nat.zero_add _).symm (tq_M_mono (am_X12_heaps h) ?_)
  refine tq_wi_e (fun r104 z103 h => ?_)
  refine tq_s_istore (i := 7) (L9 := [.ref 902, .ref 0, .ref 51, .ref 87, .ref 88, .int a5, .int r102, .int r104, .null]) (by decide +kernel) (by decide) rfl ?_
  refine tq_s_aload_n (kk := 2) (by decide +kernel) rfl ?_
  refine tq_callV (as := []) (st := []) (d1 := 0) (x1 := 0) (x2 := x) (by decide +kernel) ln_13_157 mf_X12_thrown rfl sh_51 rfl (by decide) np_X12_thrown rfl (Nat.le_of_ble_eq_true rfl) (by decide) (Nat.zero_add _).symm (tq_M_mono (am_X12_thrown h) ?_)
  refine tq_wi_e (fun r106 z105 h => ?_)
  refine tq_s_iload (i := 6) (by decide +kernel) rfl ?_
  refine tq_icmp_eq (off := 5) (tgt := 2405) (by decide +kernel) (by decide +kernel) (fun hc => ?_) (fun hc => ?_)
  · replace h := h.1 hc
    refine tq_s_iload (i := 6) (by decide +kernel) rfl ?_
    refine tq_if_ne (off := 15) (tgt := 2422) (by decide +kernel) (by decide +kernel) (fun hc => ?_) (fun hc => ?_)
    · replace h := h.1 hc
      exact tq_to (tq_lk1 (tq_lk1 (tq_lk1 (tq_lk1 (tq_lk1 (tq_lk1 (tq_ld1 (tq_ld1 (tq_lk1 tq_l0))))))))) (ac_law_2422 hB28 h)
    · replace h := h.2 hc
      refine tq_s_aload_n (kk := 3) (by decide +kernel) rfl ?_
      refine tq_k_ic (n := 0) (v := (0 : Int32)) (by decide +kernel) kc_0 ?_
      refine tq_s_lald (by decide +kernel) sh_87 vi_0_1 ?_
      refine tq_s_iload (i := 7) (by decide +kernel) rfl ?_
      refine tq_s_i2l (by decide +kernel) ?_
      refine tq_lcmp_eq (off := 5) (tgt := 2422) (by decide +kernel) (by decide +kernel) (by decide +kernel) (fun hc => ?_) (fun hc => ?_)
      · replace h := h.1 hc
        exact tq_to (tq_lk1 (tq_lk1 (tq_lk1 (tq_lk1 (tq_lk1 (tq_lk1 (tq_ld1 (tq_ld1 (tq_lk1 tq_l0))))))))) (ac_law_2422 hB28 h)
      · replace h := h.2 hc
        refine tq_k_ic (n := 0) (v := (0 : Int32)) (by decide +kernel) kc_0 ?_
        exact tq_ret_z (st := []) (ty := .boolean) (by decide +kernel) (by decide +kernel) rfl h
  · replace h := h.2 hc
    refine tq_k_ic (n := 0) (v := (0 : Int32)) (by decide +kernel) kc_0 ?_
    exact tq_ret_z (st := []) (ty := .boolean) (by decide +kernel) (by decide +kernel) rfl h
def wc_law_2342 (K : Nat × (Nat → Int32)) (B28 : Int32 → tq_S → Prop) (Q : tq_O → tq_S → Prop) (a5 : Int32) (z : tq_S) : Prop := wc_law_2748 K B28 Q a5 z
theorem ac_law_2342 {K : Nat × (Nat → Int32)} {x : Nat} {Q : tq_O → tq_S → Prop} {B28 : Int32 → tq_S → Prop} {a5 : Int32} {z : tq_S} (hB28 : ∀ (b5 : Int32) (z : tq_S), B28 b5 z → tq_T K 93 x mm_law 28 [.ref 902, .ref 0, .ref 51, .ref 87, .ref 88, .int b5, .null, .null, .null] [] z Q) (h : wc_law_2342 K B28 Q a5 z) : tq_T K 93 x mm_law 2342 [.ref 902, .ref 0, .ref 51, .ref 87, .ref 88, .int a5, .null, .null, .null] [] z Q := by
  unfold wc_law_2342 at h
  refine tq_s_goto (off := 406) (tgt := 2748) (by decide +kernel) (by decide +kernel) ?_
  exact ac_law_2748 hB28 h
def wc_law_2265 (K : Nat × (Nat → Int32)) (B28 : Int32 → tq_S → Prop) (Q : tq_O → tq_S → Prop) (a5 : Int32) (z : tq_S) : Prop := vp_in (a5 + (1 : Int32)) K.1 ∧ vp_in (a5 + (2 : Int32)) K.1 ∧ vp_in (a5 + (3 : Int32)) K.1 ∧ wm_L_hexagon (K.2 (Int32.toNatClampNeg (a5 + (1 : Int32)))) (K.2 (Int32.toNatClampNeg (a5 + (2 : Int32)))) (K.2 (Int32.toNatClampNeg (a5 + (3 : Int32)))) z (tq_wi fun r102 z101 => vp_in (a5 + (1 : Int32)) K.1 ∧ vp_in (a5 + (2 : Int32)) K.1 ∧ vp_in (a5 + (3 : Int32)) K.1 ∧ wm_X12_hexagon (K.2 (Int32.toNatClampNeg (a5 + (1 : Int32)))) (K.2 (Int32.toNatClampNeg (a5 + (2 : Int32)))) (K.2 (Int32.toNatClampNeg (a5 + (3 : Int32)))) z101 (tq_wi fun r104 z103 => wm_X12_thrown z103 (tq_wi fun r106 z105 => ((r106 = r102 → ((¬ r102 = 0 → wc_law_2342 K B28 Q a5 z105) ∧ (r102 = 0 → (((tq_al z105 87 (Int32.toNatClampNeg (0 : Int32))) = (Int32.toInt64 r104) → wc_law_2342 K B28 Q a5 z105) ∧ (¬ (tq_al z105 87 (Int32.toNatClampNeg (0 : Int32))) = (Int32.toInt64 r104) → Q (.inl (some (.int (0 : Int32)))) z105))))) ∧ (¬ r106 = r102 → Q (.inl (some (.int (0 : Int32)))) z105)))))
theorem ac_law_2265 {K : Nat × (Nat → Int32)} {x : Nat} {Q : tq_O → tq_S → Prop} {B28 : Int32 → tq_S → Prop} {a5 : Int32} {z : tq_S} (hB28 : ∀ (b5 : Int32) (z : tq_S), B28 b5 z → tq_T K 93 x mm_law 28 [.ref 902, .ref 0, .ref 51, .ref 87, .ref 88, .int b5, .null, .null, .null] [] z Q) (h : wc_law_2265 K B28 Q a5 z) : tq_T K 93 (x + 1) mm_law 2265 [.ref 902, .ref 0, .ref 51, .ref 87, .ref 88, .int a5, .null, .null, .null] [] z Q := by
  unfold wc_law_2265 at h
  refine tq_s_aload_n (kk := 1) (by decide +kernel) rfl ?_
  refine tq_s_aload_n (kk := 0) (by decide +kernel) rfl ?_
  refine tq_s_iload (i := 5) (by decide +kernel) rfl ?_
  refine tq_k_ic (n := 1) (v := (1 : Int32)) (by decide +kernel) kc_1 ?_
  refine tq_s_iadd (by decide +kernel) ?_
  refine tq_s_caload (b := 902) (n := K.1) (f := K.2) (by decide +kernel) rfl h.1 ?_
  replace h := h.2
  refine tq_s_aload_n (kk := 0) (by decide +kernel) rfl ?_
  refine tq_s_iload (i := 5) (by decide +kernel) rfl ?_
  refine tq_k_ic (n := 2) (v := (2 : Int32)) (by decide +kernel) kc_2 ?_
  refine tq_s_iadd (by decide +kernel) ?_
  refine tq_s_caload (b := 902) (n := K.1) (f := K.2) (by decide +kernel) rfl h.1 ?_
  replace h := h.2
  refine tq_s_aload_n (kk := 0) (by decide +kernel) rfl ?_
  refine tq_s_iload (i := 5) (by decide +kernel) rfl ?_
  refine tq_k_ic (n := 3) (v := (3 : Int32)) (by decide +kernel) kc_3 ?_
  refine tq_s_iadd (by decide +kernel) ?_
  refine tq_s_caload (b := 902) (n := K.1) (f := K.2) (by decide +kernel) rfl h.1 ?_
  replace h := h.2
  refine tq_s_aload_n (kk := 3) (by decide +kernel) rfl ?_
  refine tq_callSH (as := [.ref 0, .int (K.2 (Int32.toNatClampNeg (a5 + (1 : Int32)))), .int (K.2 (Int32.toNatClampNeg (a5 + (2 : Int32)))), .int (K.2 (Int32.toNatClampNeg (a5 + (3 : Int32)))), .ref 87]) (st := []) (d1 := 6) (x1 := 1) (x2 := x) (by decide +kernel) ln_13_286 mf_L_hexagon rfl (by decide) np_L_hexagon rfl (Nat.le_of_ble_eq_true rfl) (by decide) (Nat.add_comm _ _) (tq_M_mono (am_L_hexagon (x := 0) h) ?_)
  refine tq_wi_e (fun r102 z101 h => ?_)
  refine tq_s_istore (i := 6) (L9 := [.ref 902, .ref 0, .ref 51, .ref 87, .ref 88, .int a5, .int r102, .null, .null]) (by decide +kernel) (by decide) rfl ?_
  refine tq_s_aload_n (kk := 2) (by decide +kernel) rfl ?_
  refine tq_s_aload_n (kk := 0) (by decide +kernel) rfl ?_
  refine tq_s_iload (i := 5) (by decide +kernel) rfl ?_
  refine tq_k_ic (n := 1) (v := (1 : Int32)) (by decide +kernel) kc_1 ?_
  refine tq_s_iadd (by decide +kernel) ?_
  refine tq_s_caload (b := 902) (n := K.1) (f := K.2) (by decide +kernel) rfl h.1 ?_
  replace h := h.2
  refine tq_s_aload_n (kk := 0) (by decide +kernel) rfl ?_
  refine tq_s_iload (i := 5) (by decide +kernel) rfl ?_
  refine tq_k_ic (n := 2) (v := (2 : Int32)) (by decide +kernel) kc_2 ?_
  refine tq_s_iadd (by decide +kernel) ?_
  refine tq_s_caload (b := 902) (n := K.1) (f := K.2) (by decide +kernel) rfl h.1 ?_
  replace h := h.2
  refine tq_s_aload_n (kk := 0) (by decide +kernel) rfl ?_
  refine tq_s_iload (i := 5) (by decide +kernel) rfl ?_
  refine tq_k_ic (n := 3) (v := (3 : Int32)) (by decide +kernel) kc_3 ?_
  refine tq_s_iadd (by decide +kernel) ?_
  refine tq_s_caload (b := 902) (n := K.1) (f := K.2) (by decide +kernel) rfl h.1 ?_
  replace h := h.2
  refine tq_callV (as := [.int (K.2 (Int32.toNatClampNeg (a5 + (1 : Int32)))), .int (K.2 (Int32.toNatClampNeg (a5 + (2 : Int32)))), .int (K.2 (Int32.toNatClampNeg (a5 + (3 : Int32))))]) (st := []) (d1 := 43) (x1 := 0) (x2 := x) (by decide +kernel) ln_13_288 mf_X12_hexagon rfl sh_51 rfl (by decide) np_X12_hexagon rfl (Nat.le_of_ble_eq_true rfl) (by decide) (Nat.zero_add _).symm (tq_M_mono (am_X12_hexagon h) ?_)
  refine tq_wi_e (fun r104 z103 h => ?_)
  refine tq_s_istore (i := 7) (L9 := [.ref 902, .ref 0, .ref 51, .ref 87, .ref 88, .int a5, .int r102, .int r104, .null]) (by decide +kernel) (by decide) rfl ?_
  refine tq_s_aload_n (kk := 2) (by decide +kernel) rfl ?_
  refine tq_callV (as := []) (st := []) (d1 := 0) (x1 := 0) (x2 := x) (by decide +kernel) ln_13_157 mf_X12_thrown rfl sh_51 rfl (by decide) np_X12_thrown rfl (Nat.le_of_ble_eq_true rfl) (by decide) (Nat.zero_add _).symm (tq_M_mono (am_X12_thrown h) ?_)
  refine tq_wi_e (fun r106 z105 h => ?_)
  refine tq_s_iload (i := 6) (by decide +kernel) rfl ?_
  refine tq_icmp_eq (off := 5) (tgt := 2325) (by decide +kernel) (by decide +kernel) (fun hc => ?_) (fun hc => ?_)
  · replace h := h.1 hc
    refine tq_s_iload (i := 6) (by decide +kernel) rfl ?_
    refine tq_if_ne (off := 15) (tgt := 2342) (by decide +kernel) (by decide +kernel) (fun hc => ?_) (fun hc => ?_)
    · replace h := h.1 hc
      exact tq_to (tq_lk1 (tq_lk1 (tq_lk1 (tq_lk1 (tq_lk1 (tq_lk1 (tq_ld1 (tq_ld1 (tq_lk1 tq_l0))))))))) (ac_law_2342 hB28 h)
    · replace h := h.2 hc
      refine tq_s_aload_n (kk := 3) (by decide +kernel) rfl ?_
      refine tq_k_ic (n := 0) (v := (0 : Int32)) (by decide +kernel) kc_0 ?_
      refine tq_s_lald (by decide +kernel) sh_87 vi_0_1 ?_
      refine tq_s_iload (i := 7) (by decide +kernel) rfl ?_
      refine tq_s_i2l (by decide +kernel) ?_
      refine tq_lcmp_eq (off := 5) (tgt := 2342) (by decide +kernel) (by decide +kernel) (by decide +kernel) (fun hc => ?_) (fun hc => ?_)
      · replace h := h.1 hc
        exact tq_to (tq_lk1 (tq_lk1 (tq_lk1 (tq_lk1 (tq_lk1 (tq_lk1 (tq_ld1 (tq_ld1 (tq_lk1 tq_l0))))))))) (ac_law_2342 hB28 h)
      · replace h := h.2 hc
        refine tq_k_ic (n := 0) (v := (0 : Int32)) (by decide +kernel) kc_0 ?_
        exact tq_ret_z (st := []) (ty := .boolean) (by decide +kernel) (by decide +kernel) rfl h
  · replace h := h.2 hc
    refine tq_k_ic (n := 0) (v := (0 : Int32)) (by decide +kernel) kc_0 ?_
    exact tq_ret_z (st := []) (ty := .boolean) (by decide +kernel) (by decide +kernel) rfl h
def wc_law_2262 (K : Nat × (Nat → Int32)) (B28 : Int32 → tq_S → Prop) (Q : tq_O → tq_S → Prop) (a5 : Int32) (z : tq_S) : Prop := wc_law_2748 K B28 Q a5 z
theorem ac_law_2262 {K : Nat × (Nat → Int32)} {x : Nat} {Q : tq_O → tq_S → Prop} {B28 : Int32 → tq_S → Prop} {a5 : Int32} {z : tq_S} (hB28 : ∀ (b5 : Int32) (z : tq_S), B28 b5 z → tq_T K 93 x mm_law 28 [.ref 902, .ref 0, .ref 51, .ref 87, .ref 88, .int b5, .null, .null, .null] [] z Q) (h : wc_law_2262 K B28 Q a5 z) : tq_T K 93 x mm_law 2262 [.ref 902, .ref 0, .ref 51, .ref 87, .ref 88, .int a5, .null, .null, .null] [] z Q := by
  unfold wc_law_2262 at h
  refine tq_s_goto (off := 486) (tgt := 2748) (by decide +kernel) (by decide +kernel) ?_
  exact ac_law_2748 hB28 h
def wc_law_2197 (K : Nat × (Nat → Int32)) (B28 : Int32 → tq_S → Prop) (Q : tq_O → tq_S → Prop) (a5 : Int32) (z : tq_S) : Prop := vp_in (a5 + (1 : Int32)) K.1 ∧ vp_in (a5 + (2 : Int32)) K.1 ∧ wm_L_rule (K.2 (Int32.toNatClampNeg (a5 + (1 : Int32)))) (K.2 (Int32.toNatClampNeg (a5 + (2 : Int32)))) z (tq_wi fun r102 z101 => vp_in (a5 + (1 : Int32)) K.1 ∧ vp_in (a5 + (2 : Int32)) K.1 ∧ wm_X12_rule (K.2 (Int32.toNatClampNeg (a5 + (1 : Int32)))) (K.2 (Int32.toNatClampNeg (a5 + (2 : Int32)))) z101 (tq_wi fun r104 z103 => wm_X12_thrown z103 (tq_wi fun r106 z105 => ((r106 = r102 → ((¬ r102 = 0 → wc_law_2262 K B28 Q a5 z105) ∧ (r102 = 0 → (((tq_al z105 87 (Int32.toNatClampNeg (0 : Int32))) = (Int32.toInt64 r104) → wc_law_2262 K B28 Q a5 z105) ∧ (¬ (tq_al z105 87 (Int32.toNatClampNeg (0 : Int32))) = (Int32.toInt64 r104) → Q (.inl (some (.int (0 : Int32)))) z105))))) ∧ (¬ r106 = r102 → Q (.inl (some (.int (0 : Int32)))) z105)))))
theorem ac_law_2197 {K : Nat × (Nat → Int32)} {x : Nat} {Q : tq_O → tq_S → Prop} {B28 : Int32 → tq_S → Prop} {a5 : Int32} {z : tq_S} (hB28 : ∀ (b5 : Int32) (z : tq_S), B28 b5 z → tq_T K 93 x mm_law 28 [.ref 902, .ref 0, .ref 51, .ref 87, .ref 88, .int b5, .null, .null, .null] [] z Q) (h : wc_law_2197 K B28 Q a5 z) : tq_T K 93 (x + 1) mm_law 2197 [.ref 902, .ref 0, .ref 51, .ref 87, .ref 88, .int a5, .null, .null, .null] [] z Q := by
  unfold wc_law_2197 at h
  refine tq_s_aload_n (kk := 1) (by decide +kernel) rfl ?_
  refine tq_s_aload_n (kk := 0) (by decide +kernel) rfl ?_
  refine tq_s_iload (i := 5) (by decide +kernel) rfl ?_
  refine tq_k_ic (n := 1) (v := (1 : Int32)) (by decide +kernel) kc_1 ?_
  refine tq_s_iadd (by decide +kernel) ?_
  refine tq_s_caload (b := 902) (n := K.1) (f := K.2) (by decide +kernel) rfl h.1 ?_
  replace h := h.2
  refine tq_s_aload_n (kk := 0) (by decide +kernel) rfl ?_
  refine tq_s_iload (i := 5) (by decide +kernel) rfl ?_
  refine tq_k_ic (n := 2) (v := (2 : Int32)) (by decide +kernel) kc_2 ?_
  refine tq_s_iadd (by decide +kernel) ?_
  refine tq_s_caload (b := 902) (n := K.1) (f := K.2) (by decide +kernel) rfl h.1 ?_
  replace h := h.2
  refine tq_s_aload_n (kk := 3) (by decide +kernel) rfl ?_
  refine tq_callSH (as := [.ref 0, .int (K.2 (Int32.toNatClampNeg (a5 + (1 : Int32)))), .int (K.2 (Int32.toNatClampNeg (a5 + (2 : Int32)))), .ref 87]) (st := []) (d1 := 5) (x1 := 1) (x2 := x) (by decide +kernel) ln_13_283 mf_L_rule rfl (by decide) np_L_rule rfl (Nat.le_of_ble_eq_true rfl) (by decide) (Nat.add_comm _ _) (tq_M_mono (am_L_rule (x := 0) h) ?_)
  refine tq_wi_e (fun r102 z101 h => ?_)
  refine tq_s_istore (i := 6) (L9 := [.ref 902, .ref 0, .ref 51, .ref 87, .ref 88, .int a5, .int r102, .null, .null]) (by decide +kernel) (by decide) rfl ?_
  refine tq_s_aload_n (kk := 2) (by decide +kernel) rfl ?_
  refine tq_s_aload_n (kk := 0) (by decide +kernel) rfl ?_
  refine tq_s_iload (i := 5) (by decide +kernel) rfl ?_
  refine tq_k_ic (n := 1) (v := (1 : Int32)) (by decide +kernel) kc_1 ?_
  refine tq_s_iadd (by decide +kernel) ?_
  refine tq_s_caload (b := 902) (n := K.1) (f := K.2) (by decide +kernel) rfl h.1 ?_
  replace h := h.2
  refine tq_s_aload_n (kk := 0) (by decide +kernel) rfl ?_
  refine tq_s_iload (i := 5) (by decide +kernel) rfl ?_
  refine tq_k_ic (n := 2) (v := (2 : Int32)) (by decide +kernel) kc_2 ?_
  refine tq_s_iadd (by decide +kernel) ?_
  refine tq_s_caload (b := 902) (n := K.1) (f := K.2) (by decide +kernel) rfl h.1 ?_
  replace h := h.2
  refine tq_callV (as := [.int (K.2 (Int32.toNatClampNeg (a5 + (1 : Int32)))), .int (K.2 (Int32.toNatClampNeg (a5 + (2 : Int32))))]) (st := []) (d1 := 43) (x1 := 0) (x2 := x) (by decide +kernel) ln_13_285 mf_X12_rule rfl sh_51 rfl (by decide) np_X12_rule rfl (Nat.le_of_ble_eq_true rfl) (by decide) (Nat.zero_add _).symm (tq_M_mono (am_X12_rule h) ?_)
  refine tq_wi_e (fun r104 z103 h => ?_)
  refine tq_s_istore (i := 7) (L9 := [.ref 902, .ref 0, .ref 51, .ref 87, .ref 88, .int a5, .int r102, .int r104, .null]) (by decide +kernel) (by decide) rfl ?_
  refine tq_s_aload_n (kk := 2) (by decide +kernel) rfl ?_
  refine tq_callV (as := []) (st := []) (d1 := 0) (x1 := 0) (x2 := x) (by decide +kernel) ln_13_157 mf_X12_thrown rfl sh_51 rfl (by decide) np_X12_thrown rfl (Nat.le_of_ble_eq_true rfl) (by decide) (Nat.zero_add _).symm (tq_M_mono (am_X12_thrown h) ?_)
  refine tq_wi_e (fun r106 z105 h => ?_)
  refine tq_s_iload (i := 6) (by decide +kernel) rfl ?_
  refine tq_icmp_eq (off := 5) (tgt := 2245) (by decide +kernel) (by decide +kernel) (fun hc => ?_) (fun hc => ?_)
  · replace h := h.1 hc
    refine tq_s_iload (i := 6) (by decide +kernel) rfl ?_
    refine tq_if_ne (off := 15) (tgt := 2262) (by decide +kernel) (by decide +kernel) (fun hc => ?_) (fun hc => ?_)
    · replace h := h.1 hc
      exact tq_to (tq_lk1 (tq_lk1 (tq_lk1 (tq_lk1 (tq_lk1 (tq_lk1 (tq_ld1 (tq_ld1 (tq_lk1 tq_l0))))))))) (ac_law_2262 hB28 h)
    · replace h := h.2 hc
      refine tq_s_aload_n (kk := 3) (by decide +kernel) rfl ?_
      refine tq_k_ic (n := 0) (v := (0 : Int32)) (by decide +kernel) kc_0 ?_
      refine tq_s_lald (by decide +kernel) sh_87 vi_0_1 ?_
      refine tq_s_iload (i := 7) (by decide +kernel) rfl ?_
      refine tq_s_i2l (by decide +kernel) ?_
      refine tq_lcmp_eq (off := 5) (tgt := 2262) (by decide +kernel) (by decide +kernel) (by decide +kernel) (fun hc => ?_) (fun hc => ?_)
      · replace h := h.1 hc
        exact tq_to (tq_lk1 (tq_lk1 (tq_lk1 (tq_lk1 (tq_lk1 (tq_lk1 (tq_ld1 (tq_ld1 (tq_lk1 tq_l0))))))))) (ac_law_2262 hB28 h)
      · replace h := h.2 hc
        refine tq_k_ic (n := 0) (v := (0 : Int32)) (by decide +kernel) kc_0 ?_
        exact tq_ret_z (st := []) (ty := .boolean) (by decide +kernel) (by decide +kernel) rfl h
  · replace h := h.2 hc
    refine tq_k_ic (n := 0) (v := (0 : Int32)) (by decide +kernel) kc_0 ?_
    exact tq_ret_z (st := []) (ty := .boolean) (by decide +kernel) (by decide +kernel) rfl h
def wc_law_2194 (K : Nat × (Nat → Int32)) (B28 : Int32 → tq_S → Prop) (Q : tq_O → tq_S → Prop) (a5 : Int32) (z : tq_S) : Prop := wc_law_2748 K B28 Q a5 z
theorem ac_law_2194 {K : Nat × (Nat → Int32)} {x : Nat} {Q : tq_O → tq_S → Prop} {B28 : Int32 → tq_S → Prop} {a5 : Int32} {z : tq_S} (hB28 : ∀ (b5 : Int32) (z : tq_S), B28 b5 z → tq_T K 93 x mm_law 28 [.ref 902, .ref 0, .ref 51, .ref 87, .ref 88, .int b5, .null, .null, .null] [] z Q) (h : wc_law_2194 K B28 Q a5 z) : tq_T K 93 x mm_law 2194 [.ref 902, .ref 0, .ref 51, .ref 87, .ref 88, .int a5, .null, .null, .null] [] z Q := by
  unfold wc_law_2194 at h
  refine tq_s_goto (off := 554) (tgt := 2748) (by decide +kernel) (by decide +kernel) ?_
  exact ac_law_2748 hB28 h
def wc_law_2141 (K : Nat × (Nat → Int32)) (B28 : Int32 → tq_S → Prop) (Q : tq_O → tq_S → Prop) (a5 : Int32) (z : tq_S) : Prop := vp_in (a5 + (1 : Int32)) K.1 ∧ wm_L_order (K.2 (Int32.toNatClampNeg (a5 + (1 : Int32)))) z (tq_wi fun r102 z101 => vp_in (a5 + (1 : Int32)) K.1 ∧ wm_X12_order (K.2 (Int32.toNatClampNeg (a5 + (1 : Int32)))) z101 (tq_wi fun r104 z103 => wm_X12_thrown z103 (tq_wi fun r106 z105 => ((r106 = r102 → ((¬ r102 = 0 → wc_law_2194 K B28 Q a5 z105) ∧ (r102 = 0 → (((tq_al z105 87 (Int32.toNatClampNeg (0 : Int32))) = (Int32.toInt64 r104) → wc_law_2194 K B28 Q a5 z105) ∧ (¬ (tq_al z105 87 (Int32.toNatClampNeg (0 : Int32))) = (Int32.toInt64 r104) → Q (.inl (some (.int (0 : Int32)))) z105))))) ∧ (¬ r106 = r102 → Q (.inl (some (.int (0 : Int32)))) z105)))))
theorem ac_law_2141 {K : Nat × (Nat → Int32)} {x : Nat} {Q : tq_O → tq_S → Prop} {B28 : Int32 → tq_S → Prop} {a5 : Int32} {z : tq_S} (hB28 : ∀ (b5 : Int32) (z : tq_S), B28 b5 z → tq_T K 93 x mm_law 28 [.ref 902, .ref 0, .ref 51, .ref 87, .ref 88, .int b5, .null, .null, .null] [] z Q) (h : wc_law_2141 K B28 Q a5 z) : tq_T K 93 (x + 1) mm_law 2141 [.ref 902, .ref 0, .ref 51, .ref 87, .ref 88, .int a5, .null, .null, .null] [] z Q := by
  unfold wc_law_2141 at h
  refine tq_s_aload_n (kk := 1) (by decide +kernel) rfl ?_
  refine tq_s_aload_n (kk := 0) (by decide +kernel) rfl ?_
  refine tq_s_iload (i := 5) (by decide +kernel) rfl ?_
  refine tq_k_ic (n := 1) (v := (1 : Int32)) (by decide +kernel) kc_1 ?_
  refine tq_s_iadd (by decide +kernel) ?_
  refine tq_s_caload (b := 902) (n := K.1) (f := K.2) (by decide +kernel) rfl h.1 ?_
  replace h := h.2
  refine tq_s_aload_n (kk := 3) (by decide +kernel) rfl ?_
  refine tq_callSH (as := [.ref 0, .int (K.2 (Int32.toNatClampNeg (a5 + (1 : Int32)))), .ref 87]) (st := []) (d1 := 2) (x1 := 1) (x2 := x) (by decide +kernel) ln_13_280 mf_L_order rfl (by decide) np_L_order rfl (Nat.le_of_ble_eq_true rfl) (by decide) (Nat.add_comm _ _) (tq_M_mono (am_L_order (x := 0) h) ?_)
  refine tq_wi_e (fun r102 z101 h => ?_)
  refine tq_s_istore (i := 6) (L9 := [.ref 902, .ref 0, .ref 51, .ref 87, .ref 88, .int a5, .int r102, .null, .null]) (by decide +kernel) (by decide) rfl ?_
  refine tq_s_aload_n (kk := 2) (by decide +kernel) rfl ?_
  refine tq_s_aload_n (kk := 0) (by decide +kernel) rfl ?_
  refine tq_s_iload (i := 5) (by decide +kernel) rfl ?_
  refine tq_k_ic (n := 1) (v := (1 : Int32)) (by decide +kernel) kc_1 ?_
  refine tq_s_iadd (by decide +kernel) ?_
  refine tq_s_caload (b := 902) (n := K.1) (f := K.2) (by decide +kernel) rfl h.1 ?_
  replace h := h.2
  refine tq_callV (as := [.int (K.2 (Int32.toNatClampNeg (a5 + (1 : Int32))))]) (st := []) (d1 := 43) (x1 := 0) (x2 := x) (by decide +kernel) ln_13_282 mf_X12_order rfl sh_51 rfl (by decide) np_X12_order rfl (Nat.le_of_ble_eq_true rfl) (by decide) (Nat.zero_add _).symm (tq_M_mono (am_X12_order h) ?_)
  refine tq_wi_e (fun r104 z103 h => ?_)
  refine tq_s_istore (i := 7) (L9 := [.ref 902, .ref 0, .ref 51, .ref 87, .ref 88, .int a5, .int r102, .int r104, .null]) (by decide +kernel) (by decide) rfl ?_
  refine tq_s_aload_n (kk := 2) (by decide +kernel) rfl ?_
  refine tq_callV (as := []) (st := []) (d1 := 0) (x1 := 0) (x2 := x) (by decide +kernel) ln_13_157 mf_X12_thrown rfl sh_51 rfl (by decide) np_X12_thrown rfl (Nat.le_of_ble_eq_true rfl) (by decide) (Nat.zero_add _).symm (tq_M_mono (am_X12_thrown h) ?_)
  refine tq_wi_e (fun r106 z105 h => ?_)
  refine tq_s_iload (i := 6) (by decide +kernel) rfl ?_
  refine tq_icmp_eq (off := 5) (tgt := 2177) (by decide +kernel) (by decide +kernel) (fun hc => ?_) (fun hc => ?_)
  · replace h := h.1 hc
    refine tq_s_iload (i := 6) (by decide +kernel) rfl ?_
    refine tq_if_ne (off := 15) (tgt := 2194) (by decide +kernel) (by decide +kernel) (fun hc => ?_) (fun hc => ?_)
    · replace h := h.1 hc
      exact tq_to (tq_lk1 (tq_lk1 (tq_lk1 (tq_lk1 (tq_lk1 (tq_lk1 (tq_ld1 (tq_ld1 (tq_lk1 tq_l0))))))))) (ac_law_2194 hB28 h)
    · replace h := h.2 hc
      refine tq_s_aload_n (kk := 3) (by decide +kernel) rfl ?_
      refine tq_k_ic (n := 0) (v := (0 : Int32)) (by decide +kernel) kc_0 ?_
      refine tq_s_lald (by decide +kernel) sh_87 vi_0_1 ?_
      refine tq_s_iload (i := 7) (by decide +kernel) rfl ?_
      refine tq_s_i2l (by decide +kernel) ?_
      refine tq_lcmp_eq (off := 5) (tgt := 2194) (by decide +kernel) (by decide +kernel) (by decide +kernel) (fun hc => ?_) (fun hc => ?_)
      · replace h := h.1 hc
        exact tq_to (tq_lk1 (tq_lk1 (tq_lk1 (tq_lk1 (tq_lk1 (tq_lk1 (tq_ld1 (tq_ld1 (tq_lk1 tq_l0))))))))) (ac_law_2194 hB28 h)
      · replace h := h.2 hc
        refine tq_k_ic (n := 0) (v := (0 : Int32)) (by decide +kernel) kc_0 ?_
        exact tq_ret_z (st := []) (ty := .boolean) (by decide +kernel) (by decide +kernel) rfl h
  · replace h := h.2 hc
    refine tq_k_ic (n := 0) (v := (0 : Int32)) (by decide +kernel) kc_0 ?_
    exact tq_ret_z (st := []) (ty := .boolean) (by decide +kernel) (by decide +kernel) rfl h
def wc_law_2138 (K : Nat × (Nat → Int32)) (B28 : Int32 → tq_S → Prop) (Q : tq_O → tq_S → Prop) (a5 : Int32) (z : tq_S) : Prop := wc_law_2748 K B28 Q a5 z
theorem ac_law_2138 {K : Nat × (Nat → Int32)} {x : Nat} {Q : tq_O → tq_S → Prop} {B28 : Int32 → tq_S → Prop} {a5 : Int32} {z : tq_S} (hB28 : ∀ (b5 : Int32) (z : tq_S), B28 b5 z → tq_T K 93 x mm_law 28 [.ref 902, .ref 0, .ref 51, .ref 87, .ref 88, .int b5, .null, .null, .null] [] z Q) (h : wc_law_2138 K B28 Q a5 z) : tq_T K 93 x mm_law 2138 [.ref 902, .ref 0, .ref 51, .ref 87, .ref 88, .int a5, .null, .null, .null] [] z Q := by
  unfold wc_law_2138 at h
  refine tq_s_goto (off := 610) (tgt := 2748) (by decide +kernel) (by decide +kernel) ?_
  exact ac_law_2748 hB28 h
def wc_law_2073 (K : Nat × (Nat → Int32)) (B28 : Int32 → tq_S → Prop) (Q : tq_O → tq_S → Prop) (a5 : Int32) (z : tq_S) : Prop := vp_in (a5 + (1 : Int32)) K.1 ∧ vp_in (a5 + (2 : Int32)) K.1 ∧ wm_L_strip (K.2 (Int32.toNatClampNeg (a5 + (1 : Int32)))) (K.2 (Int32.toNatClampNeg (a5 + (2 : Int32)))) z (tq_wi fun r102 z101 => vp_in (a5 + (1 : Int32)) K.1 ∧ vp_in (a5 + (2 : Int32)) K.1 ∧ wm_X12_strip (K.2 (Int32.toNatClampNeg (a5 + (1 : Int32)))) (K.2 (Int32.toNatClampNeg (a5 + (2 : Int32)))) z101 (tq_wi fun r104 z103 => wm_X12_thrown z103 (tq_wi fun r106 z105 => ((r106 = r102 → ((¬ r102 = 0 → wc_law_2138 K B28 Q a5 z105) ∧ (r102 = 0 → (((tq_al z105 87 (Int32.toNatClampNeg (0 : Int32))) = (Int32.toInt64 r104) → wc_law_2138 K B28 Q a5 z105) ∧ (¬ (tq_al z105 87 (Int32.toNatClampNeg (0 : Int32))) = (Int32.toInt64 r104) → Q (.inl (some (.int (0 : Int32)))) z105))))) ∧ (¬ r106 = r102 → Q (.inl (some (.int (0 : Int32)))) z105)))))
theorem ac_law_2073 {K : Nat × (Nat → Int32)} {x : Nat} {Q : tq_O → tq_S → Prop} {B28 : Int32 → tq_S → Prop} {a5 : Int32} {z : tq_S} (hB28 : ∀ (b5 : Int32) (z : tq_S), B28 b5 z → tq_T K 93 x mm_law 28 [.ref 902, .ref 0, .ref 51, .ref 87, .ref 88, .int b5, .null, .null, .null] [] z Q) (h : wc_law_2073 K B28 Q a5 z) : tq_T K 93 (x + 1) mm_law 2073 [.ref 902, .ref 0, .ref 51, .ref 87, .ref 88, .int a5, .null, .null, .null] [] z Q := by
  unfold wc_law_2073 at h
  refine tq_s_aload_n (kk := 1) (by decide +kernel) rfl ?_
  refine tq_s_aload_n (kk := 0) (by decide +kernel) rfl ?_
  refine tq_s_iload (i := 5) (by decide +kernel) rfl ?_
  refine tq_k_ic (n := 1) (v := (1 : Int32)) (by decide +kernel) kc_1 ?_
  refine tq_s_iadd (by decide +kernel) ?_
  refine tq_s_caload (b := 902) (n := K.1) (f := K.2) (by decide +kernel) rfl h.1 ?_
  replace h := h.2
  refine tq_s_aload_n (kk := 0) (by decide +kernel) rfl ?_
  refine tq_s_iload (i := 5) (by decide +kernel) rfl ?_
  refine tq_k_ic (n := 2) (v := (2 : Int32)) (by decide +kernel) kc_2 ?_
  refine tq_s_iadd (by decide +kernel) ?_
  refine tq_s_caload (b := 902) (n := K.1) (f := K.2) (by decide +kernel) rfl h.1 ?_
  replace h := h.2
  refine tq_s_aload_n (kk := 3) (by decide +kernel) rfl ?_
  refine tq_callSH (as := [.ref 0, .int (K.2 (Int32.toNatClampNeg (a5 + (1 : Int32)))), .int (K.2 (Int32.toNatClampNeg (a5 + (2 : Int32)))), .ref 87]) (st := []) (d1 := 5) (x1 := 1) (x2 := x) (by decide +kernel) ln_13_277 mf_L_strip rfl (by decide) np_L_strip rfl (Nat.le_of_ble_eq_true rfl) (by decide) (Nat.add_comm _ _) (tq_M_mono (am_L_strip (x := 0) h) ?_)
  refine tq_wi_e (fun r102 z101 h => ?_)
  refine tq_s_istore (i := 6) (L9 := [.ref 902, .ref 0, .ref 51, .ref 87, .ref 88, .int a5, .int r102, .null, .null]) (by decide +kernel) (by decide) rfl ?_
  refine tq_s_aload_n (kk := 2) (by decide +kernel) rfl ?_
  refine tq_s_aload_n (kk := 0) (by decide +kernel) rfl ?_
  refine tq_s_iload (i := 5) (by decide +kernel) rfl ?_
  refine tq_k_ic (n := 1) (v := (1 : Int32)) (by decide +kernel) kc_1 ?_
  refine tq_s_iadd (by decide +kernel) ?_
  refine tq_s_caload (b := 902) (n := K.1) (f := K.2) (by decide +kernel) rfl h.1 ?_
  replace h := h.2
  refine tq_s_aload_n (kk := 0) (by decide +kernel) rfl ?_
  refine tq_s_iload (i := 5) (by decide +kernel) rfl ?_
  refine tq_k_ic (n := 2) (v := (2 : Int32)) (by decide +kernel) kc_2 ?_
  refine tq_s_iadd (by decide +kernel) ?_
  refine tq_s_caload (b := 902) (n := K.1) (f := K.2) (by decide +kernel) rfl h.1 ?_
  replace h := h.2
  refine tq_callV (as := [.int (K.2 (Int32.toNatClampNeg (a5 + (1 : Int32)))), .int (K.2 (Int32.toNatClampNeg (a5 + (2 : Int32))))]) (st := []) (d1 := 43) (x1 := 0) (x2 := x) (by decide +kernel) ln_13_279 mf_X12_strip rfl sh_51 rfl (by decide) np_X12_strip rfl (Nat.le_of_ble_eq_true rfl) (by decide) (Nat.zero_add _).symm (tq_M_mono (am_X12_strip h) ?_)
  refine tq_wi_e (fun r104 z103 h => ?_)
  refine tq_s_istore (i := 7) (L9 := [.ref 902, .ref 0, .ref 51, .ref 87, .ref 88, .int a5, .int r102, .int r104, .null]) (by decide +kernel) (by decide) rfl ?_
  refine tq_s_aload_n (kk := 2) (by decide +kernel) rfl ?_
  refine tq_callV (as := []) (st := []) (d1 := 0) (x1 := 0) (x2 := x) (by decide +kernel) ln_13_157 mf_X12_thrown rfl sh_51 rfl (by decide) np_X12_thrown rfl (Nat.le_of_ble_eq_true rfl) (by decide) (Nat.zero_add _).symm (tq_M_mono (am_X12_thrown h) ?_)
  refine tq_wi_e (fun r106 z105 h => ?_)
  refine tq_s_iload (i := 6) (by decide +kernel) rfl ?_
  refine tq_icmp_eq (off := 5) (tgt := 2121) (by decide +kernel) (by decide +kernel) (fun hc => ?_) (fun hc => ?_)
  · replace h := h.1 hc
    refine tq_s_iload (i := 6) (by decide +kernel) rfl ?_
    refine tq_if_ne (off := 15) (tgt := 2138) (by decide +kernel) (by decide +kernel) (fun hc => ?_) (fun hc => ?_)
    · replace h := h.1 hc
      exact tq_to (tq_lk1 (tq_lk1 (tq_lk1 (tq_lk1 (tq_lk1 (tq_lk1 (tq_ld1 (tq_ld1 (tq_lk1 tq_l0))))))))) (ac_law_2138 hB28 h)
    · replace h := h.2 hc
      refine tq_s_aload_n (kk := 3) (by decide +kernel) rfl ?_
      refine tq_k_ic (n := 0) (v := (0 : Int32)) (by decide +kernel) kc_0 ?_
      refine tq_s_lald (by decide +kernel) sh_87 vi_0_1 ?_
      refine tq_s_iload (i := 7) (by decide +kernel) rfl ?_
      refine tq_s_i2l (by decide +kernel) ?_
      refine tq_lcmp_eq (off := 5) (tgt := 2138) (by decide +kernel) (by decide +kernel) (by decide +kernel) (fun hc => ?_) (fun hc => ?_)
      · replace h := h.1 hc
        exact tq_to (tq_lk1 (tq_lk1 (tq_lk1 (tq_lk1 (tq_lk1 (tq_lk1 (tq_ld1 (tq_ld1 (tq_lk1 tq_l0))))))))) (ac_law_2138 hB28 h)
      · replace h := h.2 hc
        refine tq_k_ic (n := 0) (v := (0 : Int32)) (by decide +kernel) kc_0 ?_
        exact tq_ret_z (st := []) (ty := .boolean) (by decide +kernel) (by decide +kernel) rfl h
  · replace h := h.2 hc
    refine tq_k_ic (n := 0) (v := (0 : Int32)) (by decide +kernel) kc_0 ?_
    exact tq_ret_z (st := []) (ty := .boolean) (by decide +kernel) (by decide +kernel) rfl h
def wc_law_2070 (K : Nat × (Nat → Int32)) (B28 : Int32 → tq_S → Prop) (Q : tq_O → tq_S → Prop) (a5 : Int32) (z : tq_S) : Prop := wc_law_2748 K B28 Q a5 z
theorem ac_law_2070 {K : Nat × (Nat → Int32)} {x : Nat} {Q : tq_O → tq_S → Prop} {B28 : Int32 → tq_S → Prop} {a5 : Int32} {z : tq_S} (hB28 : ∀ (b5 : Int32) (z : tq_S), B28 b5 z → tq_T K 93 x mm_law 28 [.ref 902, .ref 0, .ref 51, .ref 87, .ref 88, .int b5, .null, .null, .null] [] z Q) (h : wc_law_2070 K B28 Q a5 z) : tq_T K 93 x mm_law 2070 [.ref 902, .ref 0, .ref 51, .ref 87, .ref 88, .int a5, .null, .null, .null] [] z Q := by
  unfold wc_law_2070 at h
  refine tq_s_goto (off := 678) (tgt := 2748) (by decide +kernel) (by decide +kernel) ?_
  exact ac_law_2748 hB28 h
def wc_law_1993 (K : Nat × (Nat → Int32)) (B28 : Int32 → tq_S → Prop) (Q : tq_O → tq_S → Prop) (a5 : Int32) (z : tq_S) : Prop := vp_in (a5 + (1 : Int32)) K.1 ∧ vp_in (a5 + (2 : Int32)) K.1 ∧ vp_in (a5 + (3 : Int32)) K.1 ∧ wm_L_kindAt (K.2 (Int32.toNatClampNeg (a5 + (1 : Int32)))) (K.2 (Int32.toNatClampNeg (a5 + (2 : Int32)))) (K.2 (Int32.toNatClampNeg (a5 + (3 : Int32)))) z (tq_wi fun r102 z101 => vp_in (a5 + (1 : Int32)) K.1 ∧ vp_in (a5 + (2 : Int32)) K.1 ∧ vp_in (a5 + (3 : Int32)) K.1 ∧ wm_X12_kindAt (K.2 (Int32.toNatClampNeg (a5 + (1 : Int32)))) (K.2 (Int32.toNatClampNeg (a5 + (2 : Int32)))) (K.2 (Int32.toNatClampNeg (a5 + (3 : Int32)))) z101 (tq_wi fun r104 z103 => wm_X12_thrown z103 (tq_wi fun r106 z105 => ((r106 = r102 → ((¬ r102 = 0 → wc_law_2070 K B28 Q a5 z105) ∧ (r102 = 0 → (((tq_al z105 87 (Int32.toNatClampNeg (0 : Int32))) = (Int32.toInt64 r104) → wc_law_2070 K B28 Q a5 z105) ∧ (¬ (tq_al z105 87 (Int32.toNatClampNeg (0 : Int32))) = (Int32.toInt64 r104) → Q (.inl (some (.int (0 : Int32)))) z105))))) ∧ (¬ r106 = r102 → Q (.inl (some (.int (0 : Int32)))) z105)))))
theorem ac_law_1993 {K : Nat × (Nat → Int32)} {x : Nat} {Q : tq_O → tq_S → Prop} {B28 : Int32 → tq_S → Prop} {a5 : Int32} {z : tq_S} (hB28 : ∀ (b5 : Int32) (z : tq_S), B28 b5 z → tq_T K 93 x mm_law 28 [.ref 902, .ref 0, .ref 51, .ref 87, .ref 88, .int b5, .null, .null, .null] [] z Q) (h : wc_law_1993 K B28 Q a5 z) : tq_T K 93 (x + 1) mm_law 1993 [.ref 902, .ref 0, .ref 51, .ref 87, .ref 88, .int a5, .null, .null, .null] [] z Q := by
  unfold wc_law_1993 at h
  refine tq_s_aload_n (kk := 1) (by decide +kernel) rfl ?_
  refine tq_s_aload_n (kk := 0) (by decide +kernel) rfl ?_
  refine tq_s_iload (i := 5) (by decide +kernel) rfl ?_
  refine tq_k_ic (n := 1) (v := (1 : Int32)) (by decide +kernel) kc_1 ?_
  refine tq_s_iadd (by decide +kernel) ?_
  refine tq_s_caload (b := 902) (n := K.1) (f := K.2) (by decide +kernel) rfl h.1 ?_
  replace h := h.2
  refine tq_s_aload_n (kk := 0) (by decide +kernel) rfl ?_
  refine tq_s_iload (i := 5) (by decide +kernel) rfl ?_
  refine tq_k_ic (n := 2) (v := (2 : Int32)) (by decide +kernel) kc_2 ?_
  refine tq_s_iadd (by decide +kernel) ?_
  refine tq_s_caload (b := 902) (n := K.1) (f := K.2) (by decide +kernel) rfl h.1 ?_
  replace h := h.2
  refine tq_s_aload_n (kk := 0) (by decide +kernel) rfl ?_
  refine tq_s_iload (i := 5) (by decide +kernel) rfl ?_
  refine tq_k_ic (n := 3) (v := (3 : Int32)) (by decide +kernel) kc_3 ?_
  refine tq_s_iadd (by decide +kernel) ?_
  refine tq_s_caload (b := 902) (n := K.1) (f := K.2) (by decide +kernel) rfl h.1 ?_
  replace h := h.2
  refine tq_s_aload_n (kk := 3) (by decide +kernel) rfl ?_
  refine tq_callSH (as := [.ref 0, .int (K.2 (Int32.toNatClampNeg (a5 + (1 : Int32)))), .int (K.2 (Int32.toNatClampNeg (a5 + (2 : Int32)))), .int (K.2 (Int32.toNatClampNeg (a5 + (3 : Int32)))), .ref 87]) (st := []) (d1 := 91) (x1 := 1) (x2 := x) (by decide +kernel) ln_13_273 mf_L_kindAt rfl (by decide) np_L_kindAt rfl (Nat.le_of_ble_eq_true rfl) (by decide) (Nat.add_comm _ _) (tq_M_mono (am_L_kindAt (x := 0) h) ?_)
  refine tq_wi_e (fun r102 z101 h => ?_)
  refine tq_s_istore (i := 6) (L9 := [.ref 902, .ref 0, .ref 51, .ref 87, .ref 88, .int a5, .int r102, .null, .null]) (by decide +kernel) (by decide) rfl ?_
  refine tq_s_aload_n (kk := 2) (by decide +kernel) rfl ?_
  refine tq_s_aload_n (kk := 0) (by decide +kernel) rfl ?_
  refine tq_s_iload (i := 5) (by decide +kernel) rfl ?_
  refine tq_k_ic (n := 1) (v := (1 : Int32)) (by decide +kernel) kc_1 ?_
  refine tq_s_iadd (by decide +kernel) ?_
  refine tq_s_caload (b := 902) (n := K.1) (f := K.2) (by decide +kernel) rfl h.1 ?_
  replace h := h.2
  refine tq_s_aload_n (kk := 0) (by decide +kernel) rfl ?_
  refine tq_s_iload (i := 5) (by decide +kernel) rfl ?_
  refine tq_k_ic (n := 2) (v := (2 : Int32)) (by decide +kernel) kc_2 ?_
  refine tq_s_iadd (by decide +kernel) ?_
  refine tq_s_caload (b := 902) (n := K.1) (f := K.2) (by decide +kernel) rfl h.1 ?_
  replace h := h.2
  refine tq_s_aload_n (kk := 0) (by decide +kernel) rfl ?_
  refine tq_s_iload (i := 5) (by decide +kernel) rfl ?_
  refine tq_k_ic (n := 3) (v := (3 : Int32)) (by decide +kernel) kc_3 ?_
  refine tq_s_iadd (by decide +kernel) ?_
  refine tq_s_caload (b := 902) (n := K.1) (f := K.2) (by decide +kernel) rfl h.1 ?_
  replace h := h.2
  refine tq_callV (as := [.int (K.2 (Int32.toNatClampNeg (a5 + (1 : Int32)))), .int (K.2 (Int32.toNatClampNeg (a5 + (2 : Int32)))), .int (K.2 (Int32.toNatClampNeg (a5 + (3 : Int32))))]) (st := []) (d1 := 45) (x1 := 0) (x2 := x) (by decide +kernel) ln_13_276 mf_X12_kindAt rfl sh_51 rfl (by decide) np_X12_kindAt rfl (Nat.le_of_ble_eq_true rfl) (by decide) (Nat.zero_add _).symm (tq_M_mono (am_X12_kindAt h) ?_)
  refine tq_wi_e (fun r104 z103 h => ?_)
  refine tq_s_istore (i := 7) (L9 := [.ref 902, .ref 0, .ref 51, .ref 87, .ref 88, .int a5, .int r102, .int r104, .null]) (by decide +kernel) (by decide) rfl ?_
  refine tq_s_aload_n (kk := 2) (by decide +kernel) rfl ?_
  refine tq_callV (as := []) (st := []) (d1 := 0) (x1 := 0) (x2 := x) (by decide +kernel) ln_13_157 mf_X12_thrown rfl sh_51 rfl (by decide) np_X12_thrown rfl (Nat.le_of_ble_eq_true rfl) (by decide) (Nat.zero_add _).symm (tq_M_mono (am_X12_thrown h) ?_)
  refine tq_wi_e (fun r106 z105 h => ?_)
  refine tq_s_iload (i := 6) (by decide +kernel) rfl ?_
  refine tq_icmp_eq (off := 5) (tgt := 2053) (by decide +kernel) (by decide +kernel) (fun hc => ?_) (fun hc => ?_)
  · replace h := h.1 hc
    refine tq_s_iload (i := 6) (by decide +kernel) rfl ?_
    refine tq_if_ne (off := 15) (tgt := 2070) (by decide +kernel) (by decide +kernel) (fun hc => ?_) (fun hc => ?_)
    · replace h := h.1 hc
      exact tq_to (tq_lk1 (tq_lk1 (tq_lk1 (tq_lk1 (tq_lk1 (tq_lk1 (tq_ld1 (tq_ld1 (tq_lk1 tq_l0))))))))) (ac_law_2070 hB28 h)
    · replace h := h.2 hc
      refine tq_s_aload_n (kk := 3) (by decide +kernel) rfl ?_
      refine tq_k_ic (n := 0) (v := (0 : Int32)) (by decide +kernel) kc_0 ?_
      refine tq_s_lald (by decide +kernel) sh_87 vi_0_1 ?_
      refine tq_s_iload (i := 7) (by decide +kernel) rfl ?_
      refine tq_s_i2l (by decide +kernel) ?_
      refine tq_lcmp_eq (off := 5) (tgt := 2070) (by decide +kernel) (by decide +kernel) (by decide +kernel) (fun hc => ?_) (fun hc => ?_)
      · replace h := h.1 hc
        exact tq_to (tq_lk1 (tq_lk1 (tq_lk1 (tq_lk1 (tq_lk1 (tq_lk1 (tq_ld1 (tq_ld1 (tq_lk1 tq_l0))))))))) (ac_law_2070 hB28 h)
      · replace h := h.2 hc
        refine tq_k_ic (n := 0) (v := (0 : Int32)) (by decide +kernel) kc_0 ?_
        exact tq_ret_z (st := []) (ty := .boolean) (by decide +kernel) (by decide +kernel) rfl h
  · replace h := h.2 hc
    refine tq_k_ic (n := 0) (v := (0 : Int32)) (by decide +kernel) kc_0 ?_
    exact tq_ret_z (st := []) (ty := .boolean) (by decide +kernel) (by decide +kernel) rfl h
def wc_law_1990 (K : Nat × (Nat → Int32)) (B28 : Int32 → tq_S → Prop) (Q : tq_O → tq_S → Prop) (a5 : Int32) (z : tq_S) : Prop := wc_law_2748 K B28 Q a5 z
theorem ac_law_1990 {K : Nat × (Nat → Int32)} {x : Nat} {Q : tq_O → tq_S → Prop} {B28 : Int32 → tq_S → Prop} {a5 : Int32} {z : tq_S} (hB28 : ∀ (b5 : Int32) (z : tq_S), B28 b5 z → tq_T K 93 x mm_law 28 [.ref 902, .ref 0, .ref 51, .ref 87, .ref 88, .int b5, .null, .null, .null] [] z Q) (h : wc_law_1990 K B28 Q a5 z) : tq_T K 93 x mm_law 1990 [.ref 902, .ref 0, .ref 51, .ref 87, .ref 88, .int a5, .null, .null, .null] [] z Q := by
  unfold wc_law_1990 at h
  refine tq_s_goto (off := 758) (tgt := 2748) (by decide +kernel) (by decide +kernel) ?_
  exact ac_law_2748 hB28 h
def wc_law_1949 (K : Nat × (Nat → Int32)) (B28 : Int32 → tq_S → Prop) (Q : tq_O → tq_S → Prop) (a5 : Int32) (z : tq_S) : Prop := wm_L_unlike z (tq_wi fun r102 z101 => wm_X12_unlike z101 (tq_wi fun r104 z103 => wm_X12_thrown z103 (tq_wi fun r106 z105 => ((r106 = r102 → ((¬ r102 = 0 → wc_law_1990 K B28 Q a5 z105) ∧ (r102 = 0 → (((tq_al z105 87 (Int32.toNatClampNeg (0 : Int32))) = (Int32.toInt64 r104) → wc_law_1990 K B28 Q a5 z105) ∧ (¬ (tq_al z105 87 (Int32.toNatClampNeg (0 : Int32))) = (Int32.toInt64 r104) → Q (.inl (some (.int (0 : Int32)))) z105))))) ∧ (¬ r106 = r102 → Q (.inl (some (.int (0 : Int32)))) z105)))))
theorem ac_law_1949 {K : Nat × (Nat → Int32)} {x : Nat} {Q : tq_O → tq_S → Prop} {B28 : Int32 → tq_S → Prop} {a5 : Int32} {z : tq_S} (hB28 : ∀ (b5 : Int32) (z : tq_S), B28 b5 z → tq_T K 93 x mm_law 28 [.ref 902, .ref 0, .ref 51, .ref 87, .ref 88, .int b5, .null, .null, .null] [] z Q) (h : wc_law_1949 K B28 Q a5 z) : tq_T K 93 (x + 1) mm_law 1949 [.ref 902, .ref 0, .ref 51, .ref 87, .ref 88, .int a5, .null, .null, .null] [] z Q := by
  unfold wc_law_1949 at h
  refine tq_s_aload_n (kk := 1) (by decide +kernel) rfl ?_
  refine tq_s_aload_n (kk := 3) (by decide +kernel) rfl ?_
  refine tq_callSH (as := [.ref 0, .ref 87]) (st := []) (d1 := 92) (x1 := 1) (x2 := x) (by decide +kernel) ln_13_270 mf_L_unlike rfl (by decide) np_L_unlike rfl (Nat.le_of_ble_eq_true rfl) (by decide) (Nat.add_comm _ _) (tq_M_mono (am_L_unlike (x := 0) h) ?_)
  refine tq_wi_e (fun r102 z101 h => ?_)
  refine tq_s_istore (i := 6) (L9 := [.ref 902, .ref 0, .ref 51, .ref 87, .ref 88, .int a5, .int r102, .null, .null]) (by decide +kernel) (by decide) rfl ?_
  refine tq_s_aload_n (kk := 2) (by decide +kernel) rfl ?_
  refine tq_callV (as := []) (st := []) (d1 := 45) (x1 := 0) (x2 := x) (by decide +kernel) ln_13_272 mf_X12_unlike rfl sh_51 rfl (by decide) np_X12_unlike rfl (Nat.le_of_ble_eq_true rfl) (by decide) (Nat.zero_add _).symm (tq_M_mono (am_X12_unlike h) ?_)
  refine tq_wi_e (fun r104 z103 h => ?_)
  refine tq_s_istore (i := 7) (L9 := [.ref 902, .ref 0, .ref 51, .ref 87, .ref 88, .int a5, .int r102, .int r104, .null]) (by decide +kernel) (by decide) rfl ?_
  refine tq_s_aload_n (kk := 2) (by decide +kernel) rfl ?_
  refine tq_callV (as := []) (st := []) (d1 := 0) (x1 := 0) (x2 := x) (by decide +kernel) ln_13_157 mf_X12_thrown rfl sh_51 rfl (by decide) np_X12_thrown rfl (Nat.le_of_ble_eq_true rfl) (by decide) (Nat.zero_add _).symm (tq_M_mono (am_X12_thrown h) ?_)
  refine tq_wi_e (fun r106 z105 h => ?_)
  refine tq_s_iload (i := 6) (by decide +kernel) rfl ?_
  refine tq_icmp_eq (off := 5) (tgt := 1973) (by decide +kernel) (by decide +kernel) (fun hc => ?_) (fun hc => ?_)
  · replace h := h.1 hc
    refine tq_s_iload (i := 6) (by decide +kernel) rfl ?_
    refine tq_if_ne (off := 15) (tgt := 1990) (by decide +kernel) (by decide +kernel) (fun hc => ?_) (fun hc => ?_)
    · replace h := h.1 hc
      exact tq_to (tq_lk1 (tq_lk1 (tq_lk1 (tq_lk1 (tq_lk1 (tq_lk1 (tq_ld1 (tq_ld1 (tq_lk1 tq_l0))))))))) (ac_law_1990 hB28 h)
    · replace h := h.2 hc
      refine tq_s_aload_n (kk := 3) (by decide +kernel) rfl ?_
      refine tq_k_ic (n := 0) (v := (0 : Int32)) (by decide +kernel) kc_0 ?_
      refine tq_s_lald (by decide +kernel) sh_87 vi_0_1 ?_
      refine tq_s_iload (i := 7) (by decide +kernel) rfl ?_
      refine tq_s_i2l (by decide +kernel) ?_
      refine tq_lcmp_eq (off := 5) (tgt := 1990) (by decide +kernel) (by decide +kernel) (by decide +kernel) (fun hc => ?_) (fun hc => ?_)
      · replace h := h.1 hc
        exact tq_to (tq_lk1 (tq_lk1 (tq_lk1 (tq_lk1 (tq_lk1 (tq_lk1 (tq_ld1 (tq_ld1 (tq_lk1 tq_l0))))))))) (ac_law_1990 hB28 h)
      · replace h := h.2 hc
        refine tq_k_ic (n := 0) (v := (0 : Int32)) (by decide +kernel) kc_0 ?_
        exact tq_ret_z (st := []) (ty := .boolean) (by decide +kernel) (by decide +kernel) rfl h
  · replace h := h.2 hc
    refine tq_k_ic (n := 0) (v := (0 : Int32)) (by decide +kernel) kc_0 ?_
    exact tq_ret_z (st := []) (ty := .boolean) (by decide +kernel) (by decide +kernel) rfl h
def wc_law_1946 (K : Nat × (Nat → Int32)) (B28 : Int32 → tq_S → Prop) (Q : tq_O → tq_S → Prop) (a5 : Int32) (z : tq_S) : Prop := wc_law_2748 K B28 Q a5 z
theorem ac_law_1946 {K : Nat × (Nat → Int32)} {x : Nat} {Q : tq_O → tq_S → Prop} {B28 : Int32 → tq_S → Prop} {a5 : Int32} {z : tq_S} (hB28 : ∀ (b5 : Int32) (z : tq_S), B28 b5 z → tq_T K 93 x mm_law 28 [.ref 902, .ref 0, .ref 51, .ref 87, .ref 88, .int b5, .null, .null, .null] [] z Q) (h : wc_law_1946 K B28 Q a5 z) : tq_T K 93 x mm_law 1946 [.ref 902, .ref 0, .ref 51, .ref 87, .ref 88, .int a5, .null, .null, .null] [] z Q := by
  unfold wc_law_1946 at h
  refine tq_s_goto (off := 802) (tgt := 2748) (by decide +kernel) (by decide +kernel) ?_
  exact ac_law_2748 hB28 h
def wc_law_1905 (K : Nat × (Nat → Int32)) (B28 : Int32 → tq_S → Prop) (Q : tq_O → tq_S → Prop) (a5 : Int32) (z : tq_S) : Prop := wm_L_exact z (tq_wi fun r102 z101 => wm_X12_exact z101 (tq_wi fun r104 z103 => wm_X12_thrown z103 (tq_wi fun r106 z105 => ((r106 = r102 → ((¬ r102 = 0 → wc_law_1946 K B28 Q a5 z105) ∧ (r102 = 0 → (((tq_al z105 87 (Int32.toNatClampNeg (0 : Int32))) = (Int32.toInt64 r104) → wc_law_1946 K B28 Q a5 z105) ∧ (¬ (tq_al z105 87 (Int32.toNatClampNeg (0 : Int32))) = (Int32.toInt64 r104) → Q (.inl (some (.int (0 : Int32)))) z105))))) ∧ (¬ r106 = r102 → Q (.inl (some (.int (0 : Int32)))) z105)))))
theorem ac_law_1905 {K : Nat × (Nat → Int32)} {x : Nat} {Q : tq_O → tq_S → Prop} {B28 : Int32 → tq_S → Prop} {a5 : Int32} {z : tq_S} (hB28 : ∀ (b5 : Int32) (z : tq_S), B28 b5 z → tq_T K 93 x mm_law 28 [.ref 902, .ref 0, .ref 51, .ref 87, .ref 88, .int b5, .null, .null, .null] [] z Q) (h : wc_law_1905 K B28 Q a5 z) : tq_T K 93 (x + 1) mm_law 1905 [.ref 902, .ref 0, .ref 51, .ref 87, .ref 88, .int a5, .null, .null, .null] [] z Q := by
  unfold wc_law_1905 at h
  refine tq_s_aload_n (kk := 1) (by decide +kernel) rfl ?_
  refine tq_s_aload_n (kk := 3) (by decide +kernel) rfl ?_
  refine tq_callSH (as := [.ref 0, .ref 87]) (st := []) (d1 := 91) (x1 := 1) (x2 := x) (by decide +kernel) ln_13_267 mf_L_exact rfl (by decide) np_L_exact rfl (Nat.le_of_ble_eq_true rfl) (by decide) (Nat.add_comm _ _) (tq_M_mono (am_L_exact (x := 0) h) ?_)
  refine tq_wi_e (fun r102 z101 h => ?_)
  refine tq_s_istore (i := 6) (L9 := [.ref 902, .ref 0, .ref 51, .ref 87, .ref 88, .int a5, .int r102, .null, .null]) (by decide +kernel) (by decide) rfl ?_
  refine tq_s_aload_n (kk := 2) (by decide +kernel) rfl ?_
  refine tq_callV (as := []) (st := []) (d1 := 45) (x1 := 0) (x2 := x) (by decide +kernel) ln_13_269 mf_X12_exact rfl sh_51 rfl (by decide) np_X12_exact rfl (Nat.le_of_ble_eq_true rfl) (by decide) (Nat.zero_add _).symm (tq_M_mono (am_X12_exact h) ?_)
  refine tq_wi_e (fun r104 z103 h => ?_)
  refine tq_s_istore (i := 7) (L9 := [.ref 902, .ref 0, .ref 51, .ref 87, .ref 88, .int a5, .int r102, .int r104, .null]) (by decide +kernel) (by decide) rfl ?_
  refine tq_s_aload_n (kk := 2) (by decide +kernel) rfl ?_
  refine tq_callV (as := []) (st := []) (d1 := 0) (x1 := 0) (x2 := x) (by decide +kernel) ln_13_157 mf_X12_thrown rfl sh_51 rfl (by decide) np_X12_thrown rfl (Nat.le_of_ble_eq_true rfl) (by decide) (Nat.zero_add _).symm (tq_M_mono (am_X12_thrown h) ?_)
  refine tq_wi_e (fun r106 z105 h => ?_)
  refine tq_s_iload (i := 6) (by decide +kernel) rfl ?_
  refine tq_icmp_eq (off := 5) (tgt := 1929) (by decide +kernel) (by decide +kernel) (fun hc => ?_) (fun hc => ?_)
  · replace h := h.1 hc
    refine tq_s_iload (i := 6) (by decide +kernel) rfl ?_
    refine tq_if_ne (off := 15) (tgt := 1946) (by decide +kernel) (by decide +kernel) (fun hc => ?_) (fun hc => ?_)
    · replace h := h.1 hc
      exact tq_to (tq_lk1 (tq_lk1 (tq_lk1 (tq_lk1 (tq_lk1 (tq_lk1 (tq_ld1 (tq_ld1 (tq_lk1 tq_l0))))))))) (ac_law_1946 hB28 h)
    · replace h := h.2 hc
      refine tq_s_aload_n (kk := 3) (by decide +kernel) rfl ?_
      refine tq_k_ic (n := 0) (v := (0 : Int32)) (by decide +kernel) kc_0 ?_
      refine tq_s_lald (by decide +kernel) sh_87 vi_0_1 ?_
      refine tq_s_iload (i := 7) (by decide +kernel) rfl ?_
      refine tq_s_i2l (by decide +kernel) ?_
      refine tq_lcmp_eq (off := 5) (tgt := 1946) (by decide +kernel) (by decide +kernel) (by decide +kernel) (fun hc => ?_) (fun hc => ?_)
      · replace h := h.1 hc
        exact tq_to (tq_lk1 (tq_lk1 (tq_lk1 (tq_lk1 (tq_lk1 (tq_lk1 (tq_ld1 (tq_ld1 (tq_lk1 tq_l0))))))))) (ac_law_1946 hB28 h)
      · replace h := h.2 hc
        refine tq_k_ic (n := 0) (v := (0 : Int32)) (by decide +kernel) kc_0 ?_
        exact tq_ret_z (st := []) (ty := .boolean) (by decide +kernel) (by decide +kernel) rfl h
  · replace h := h.2 hc
    refine tq_k_ic (n := 0) (v := (0 : Int32)) (by decide +kernel) kc_0 ?_
    exact tq_ret_z (st := []) (ty := .boolean) (by decide +kernel) (by decide +kernel) rfl h
def wc_law_1892 (K : Nat × (Nat → Int32)) (B28 : Int32 → tq_S → Prop) (Q : tq_O → tq_S → Prop) (a5 : Int32) (z : tq_S) : Prop := wm_X11_clear z (tq_wi fun r102 z101 => wm_X12_clear z101 (tq_wi fun r104 z103 => ((r102 = r104 → wc_law_2748 K B28 Q a5 z103) ∧ (¬ r102 = r104 → Q (.inl (some (.int (0 : Int32)))) z103))))
theorem ac_law_1892 {K : Nat × (Nat → Int32)} {x : Nat} {Q : tq_O → tq_S → Prop} {B28 : Int32 → tq_S → Prop} {a5 : Int32} {z : tq_S} (hB28 : ∀ (b5 : Int32) (z : tq_S), B28 b5 z → tq_T K 93 x mm_law 28 [.ref 902, .ref 0, .ref 51, .ref 87, .ref 88, .int b5, .null, .null, .null] [] z Q) (h : wc_law_1892 K B28 Q a5 z) : tq_T K 93 (x + 1) mm_law 1892 [.ref 902, .ref 0, .ref 51, .ref 87, .ref 88, .int a5, .null, .null, .null] [] z Q := by
  unfold wc_law_1892 at h
  refine tq_s_aload_n (kk := 1) (by decide +kernel) rfl ?_
  refine tq_callV (as := []) (st := []) (d1 := 1) (x1 := 0) (x2 := (x + 1)) (by decide +kernel) ln_13_263 mf_X11_clear rfl sh_0 rfl (by decide) np_X11_clear rfl (Nat.le_of_ble_eq_true rfl) (by decide) (Nat.zero_add _).symm (tq_M_mono (am_X11_clear h) ?_)
  refine tq_wi_e (fun r102 z101 h => ?_)
  refine tq_s_aload_n (kk := 2) (by decide +kernel) rfl ?_
  refine tq_callV (as := []) (st := [.int r102]) (d1 := 0) (x1 := 0) (x2 := (x + 1)) (by decide +kernel) ln_13_266 mf_X12_clear rfl sh_51 rfl (by decide) np_X12_clear rfl (Nat.le_of_ble_eq_true rfl) (by decide) (Nat.zero_add _).symm (tq_M_mono (am_X12_clear h) ?_)
  refine tq_wi_e (fun r104 z103 h => ?_)
  refine tq_icmp_eq (off := 848) (tgt := 2748) (by decide +kernel) (by decide +kernel) (fun hc => ?_) (fun hc => ?_)
  · replace h := h.1 hc
    exact tq_Tx (ac_law_2748 hB28 h)
  · replace h := h.2 hc
    refine tq_k_ic (n := 0) (v := (0 : Int32)) (by decide +kernel) kc_0 ?_
    exact tq_ret_z (st := []) (ty := .boolean) (by decide +kernel) (by decide +kernel) rfl h
def wc_law_1889 (K : Nat × (Nat → Int32)) (B28 : Int32 → tq_S → Prop) (Q : tq_O → tq_S → Prop) (a5 : Int32) (z : tq_S) : Prop := wc_law_2748 K B28 Q a5 z
theorem ac_law_1889 {K : Nat × (Nat → Int32)} {x : Nat} {Q : tq_O → tq_S → Prop} {B28 : Int32 → tq_S → Prop} {a5 : Int32} {z : tq_S} (hB28 : ∀ (b5 : Int32) (z : tq_S), B28 b5 z → tq_T K 93 x mm_law 28 [.ref 902, .ref 0, .ref 51, .ref 87, .ref 88, .int b5, .null, .null, .null] [] z Q) (h : wc_law_1889 K B28 Q a5 z) : tq_T K 93 x mm_law 1889 [.ref 902, .ref 0, .ref 51, .ref 87, .ref 88, .int a5, .null, .null, .null] [] z Q := by
  unfold wc_law_1889 at h
  refine tq_s_goto (off := 859) (tgt := 2748) (by decide +kernel) (by decide +kernel) ?_
  exact ac_law_2748 hB28 h
def wc_law_1850 (K : Nat × (Nat → Int32)) (B28 : Int32 → tq_S → Prop) (Q : tq_O → tq_S → Prop) (a5 : Int32) (a6 : Int32) (s0 : Int32) (s1 : Int32) (z : tq_S) : Prop := vp_in (a5 + (3 : Int32)) K.1 ∧ wm_X12_kind s1 s0 (K.2 (Int32.toNatClampNeg (a5 + (3 : Int32)))) z (tq_wi fun r102 z101 => wm_X12_thrown z101 (tq_wi fun r104 z103 => ((r104 = a6 → ((¬ a6 = 0 → wc_law_1889 K B28 Q a5 z103) ∧ (a6 = 0 → (((tq_al z103 87 (Int32.toNatClampNeg (0 : Int32))) = (Int32.toInt64 r102) → wc_law_1889 K B28 Q a5 z103) ∧ (¬ (tq_al z103 87 (Int32.toNatClampNeg (0 : Int32))) = (Int32.toInt64 r102) → Q (.inl (some (.int (0 : Int32)))) z103))))) ∧ (¬ r104 = a6 → Q (.inl (some (.int (0 : Int32)))) z103))))
theorem ac_law_1850 {K : Nat × (Nat → Int32)} {x : Nat} {Q : tq_O → tq_S → Prop} {B28 : Int32 → tq_S → Prop} {a5 : Int32} {a6 : Int32} {s0 : Int32} {s1 : Int32} {z : tq_S} (hB28 : ∀ (b5 : Int32) (z : tq_S), B28 b5 z → tq_T K 93 x mm_law 28 [.ref 902, .ref 0, .ref 51, .ref 87, .ref 88, .int b5, .null, .null, .null] [] z Q) (h : wc_law_1850 K B28 Q a5 a6 s0 s1 z) : tq_T K 93 x mm_law 1850 [.ref 902, .ref 0, .ref 51, .ref 87, .ref 88, .int a5, .int a6, .null, .null] [.int s0, .int s1, .ref 51] z Q := by
  unfold wc_law_1850 at h
  refine tq_s_aload_n (kk := 0) (by decide +kernel) rfl ?_
  refine tq_s_iload (i := 5) (by decide +kernel) rfl ?_
  refine tq_k_ic (n := 3) (v := (3 : Int32)) (by decide +kernel) kc_3 ?_
  refine tq_s_iadd (by decide +kernel) ?_
  refine tq_s_caload (b := 902) (n := K.1) (f := K.2) (by decide +kernel) rfl h.1 ?_
  replace h := h.2
  refine tq_callV (as := [.int s1, .int s0, .int (K.2 (Int32.toNatClampNeg (a5 + (3 : Int32))))]) (st := []) (d1 := 3) (x1 := 0) (x2 := x) (by decide +kernel) ln_13_262 mf_X12_kind rfl sh_51 rfl (by decide) np_X12_kind rfl (Nat.le_of_ble_eq_true rfl) (by decide) (Nat.zero_add _).symm (tq_M_mono (am_X12_kind h) ?_)
  refine tq_wi_e (fun r102 z101 h => ?_)
  refine tq_s_istore (i := 7) (L9 := [.ref 902, .ref 0, .ref 51, .ref 87, .ref 88, .int a5, .int a6, .int r102, .null]) (by decide +kernel) (by decide) rfl ?_
  refine tq_s_aload_n (kk := 2) (by decide +kernel) rfl ?_
  refine tq_callV (as := []) (st := []) (d1 := 0) (x1 := 0) (x2 := x) (by decide +kernel) ln_13_157 mf_X12_thrown rfl sh_51 rfl (by decide) np_X12_thrown rfl (Nat.le_of_ble_eq_true rfl) (by decide) (Nat.zero_add _).symm (tq_M_mono (am_X12_thrown h) ?_)
  refine tq_wi_e (fun r104 z103 h => ?_)
  refine tq_s_iload (i := 6) (by decide +kernel) rfl ?_
  refine tq_icmp_eq (off := 5) (tgt := 1872) (by decide +kernel) (by decide +kernel) (fun hc => ?_) (fun hc => ?_)
  · replace h := h.1 hc
    refine tq_s_iload (i := 6) (by decide +kernel) rfl ?_
    refine tq_if_ne (off := 15) (tgt := 1889) (by decide +kernel) (by decide +kernel) (fun hc => ?_) (fun hc => ?_)
    · replace h := h.1 hc
      exact tq_to (tq_lk1 (tq_lk1 (tq_lk1 (tq_lk1 (tq_lk1 (tq_lk1 (tq_ld1 (tq_ld1 (tq_lk1 tq_l0))))))))) (ac_law_1889 hB28 h)
    · replace h := h.2 hc
      refine tq_s_aload_n (kk := 3) (by decide +kernel) rfl ?_
      refine tq_k_ic (n := 0) (v := (0 : Int32)) (by decide +kernel) kc_0 ?_
      refine tq_s_lald (by decide +kernel) sh_87 vi_0_1 ?_
      refine tq_s_iload (i := 7) (by decide +kernel) rfl ?_
      refine tq_s_i2l (by decide +kernel) ?_
      refine tq_lcmp_eq (off := 5) (tgt := 1889) (by decide +kernel) (by decide +kernel) (by decide +kernel) (fun hc => ?_) (fun hc => ?_)
      · replace h := h.1 hc
        exact tq_to (tq_lk1 (tq_lk1 (tq_lk1 (tq_lk1 (tq_lk1 (tq_lk1 (tq_ld1 (tq_ld1 (tq_lk1 tq_l0))))))))) (ac_law_1889 hB28 h)
      · replace h := h.2 hc
        refine tq_k_ic (n := 0) (v := (0 : Int32)) (by decide +kernel) kc_0 ?_
        exact tq_ret_z (st := []) (ty := .boolean) (by decide +kernel) (by decide +kernel) rfl h
  · replace h := h.2 hc
    refine tq_k_ic (n := 0) (v := (0 : Int32)) (by decide +kernel) kc_0 ?_
    exact tq_ret_z (st := []) (ty := .boolean) (by decide +kernel) (by decide +kernel) rfl h
def wc_law_1836 (K : Nat × (Nat → Int32)) (B28 : Int32 → tq_S → Prop) (Q : tq_O → tq_S → Prop) (a5 : Int32) (a6 : Int32) (s0 : Int32) (z : tq_S) : Prop := vp_in (a5 + (2 : Int32)) K.1 ∧ (((K.2 (Int32.toNatClampNeg (a5 + (2 : Int32)))) = 0 → wc_law_1850 K B28 Q a5 a6 (0 : Int32) s0 z) ∧ (¬ (K.2 (Int32.toNatClampNeg (a5 + (2 : Int32)))) = 0 → wc_law_1850 K B28 Q a5 a6 (1 : Int32) s0 z))
theorem ac_law_1836 {K : Nat × (Nat → Int32)} {x : Nat} {Q : tq_O → tq_S → Prop} {B28 : Int32 → tq_S → Prop} {a5 : Int32} {a6 : Int32} {s0 : Int32} {z : tq_S} (hB28 : ∀ (b5 : Int32) (z : tq_S), B28 b5 z → tq_T K 93 x mm_law 28 [.ref 902, .ref 0, .ref 51, .ref 87, .ref 88, .int b5, .null, .null, .null] [] z Q) (h : wc_law_1836 K B28 Q a5 a6 s0 z) : tq_T K 93 x mm_law 1836 [.ref 902, .ref 0, .ref 51, .ref 87, .ref 88, .int a5, .int a6, .null, .null] [.int s0, .ref 51] z Q := by
  unfold wc_law_1836 at h
  refine tq_s_aload_n (kk := 0) (by decide +kernel) rfl ?_
  refine tq_s_iload (i := 5) (by decide +kernel) rfl ?_
  refine tq_k_ic (n := 2) (v := (2 : Int32)) (by decide +kernel) kc_2 ?_
  refine tq_s_iadd (by decide +kernel) ?_
  refine tq_s_caload (b := 902) (n := K.1) (f := K.2) (by decide +kernel) rfl h.1 ?_
  replace h := h.2
  refine tq_if_eq (off := 7) (tgt := 1849) (by decide +kernel) (by decide +kernel) (fun hc => ?_) (fun hc => ?_)
  · replace h := h.1 hc
    refine tq_k_ic (n := 0) (v := (0 : Int32)) (by decide +kernel) kc_0 ?_
    exact ac_law_1850 hB28 h
  · replace h := h.2 hc
    refine tq_k_ic (n := 1) (v := (1 : Int32)) (by decide +kernel) kc_1 ?_
    refine tq_s_goto (off := 4) (tgt := 1850) (by decide +kernel) (by decide +kernel) ?_
    exact ac_law_1850 hB28 h
def wc_law_1809 (K : Nat × (Nat → Int32)) (B28 : Int32 → tq_S → Prop) (Q : tq_O → tq_S → Prop) (a5 : Int32) (s0 : Int32) (s1 : Int32) (z : tq_S) : Prop := vp_in (a5 + (3 : Int32)) K.1 ∧ wm_L_kind s1 s0 (K.2 (Int32.toNatClampNeg (a5 + (3 : Int32)))) z (tq_wi fun r102 z101 => vp_in (a5 + (1 : Int32)) K.1 ∧ (((K.2 (Int32.toNatClampNeg (a5 + (1 : Int32)))) = 0 → wc_law_1836 K B28 Q a5 r102 (0 : Int32) z101) ∧ (¬ (K.2 (Int32.toNatClampNeg (a5 + (1 : Int32)))) = 0 → wc_law_1836 K B28 Q a5 r102 (1 : Int32) z101)))
theorem ac_law_1809 {K : Nat × (Nat → Int32)} {x : Nat} {Q : tq_O → tq_S → Prop} {B28 : Int32 → tq_S → Prop} {a5 : Int32} {s0 : Int32} {s1 : Int32} {z : tq_S} (hB28 : ∀ (b5 : Int32) (z : tq_S), B28 b5 z → tq_T K 93 x mm_law 28 [.ref 902, .ref 0, .ref 51, .ref 87, .ref 88, .int b5, .null, .null, .null] [] z Q) (h : wc_law_1809 K B28 Q a5 s0 s1 z) : tq_T K 93 (x + 1) mm_law 1809 [.ref 902, .ref 0, .ref 51, .ref 87, .ref 88, .int a5, .null, .null, .null] [.int s0, .int s1, .ref 0] z Q := by
  unfold wc_law_1809 at h
  refine tq_s_aload_n (kk := 0) (by decide +kernel) rfl ?_
  refine tq_s_iload (i := 5) (by decide +kernel) rfl ?_
  refine tq_k_ic (n := 3) (v := (3 : Int32)) (by decide +kernel) kc_3 ?_
  refine tq_s_iadd (by decide +kernel) ?_
  refine tq_s_caload (b := 902) (n := K.1) (f := K.2) (by decide +kernel) rfl h.1 ?_
  replace h := h.2
  refine tq_s_aload_n (kk := 3) (by decide +kernel) rfl ?_
  refine tq_callSH (as := [.ref 0, .int s1, .int s0, .int (K.2 (Int32.toNatClampNeg (a5 + (3 : Int32)))), .ref 87]) (st := []) (d1 := 4) (x1 := 1) (x2 := x) (by decide +kernel) ln_13_259 mf_L_kind rfl (by decide) np_L_kind rfl (Nat.le_of_ble_eq_true rfl) (by decide) (Nat.add_comm _ _) (tq_M_mono (am_L_kind (x := 0) h) ?_)
  refine tq_wi_e (fun r102 z101 h => ?_)
  refine tq_s_istore (i := 6) (L9 := [.ref 902, .ref 0, .ref 51, .ref 87, .ref 88, .int a5, .int r102, .null, .null]) (by decide +kernel) (by decide) rfl ?_
  refine tq_s_aload_n (kk := 2) (by decide +kernel) rfl ?_
  refine tq_s_aload_n (kk := 0) (by decide +kernel) rfl ?_
  refine tq_s_iload (i := 5) (by decide +kernel) rfl ?_
  refine tq_k_ic (n := 1) (v := (1 : Int32)) (by decide +kernel) kc_1 ?_
  refine tq_s_iadd (by decide +kernel) ?_
  refine tq_s_caload (b := 902) (n := K.1) (f := K.2) (by decide +kernel) rfl h.1 ?_
  replace h := h.2
  refine tq_if_eq (off := 7) (tgt := 1835) (by decide +kernel) (by decide +kernel) (fun hc => ?_) (fun hc => ?_)
  · replace h := h.1 hc
    refine tq_k_ic (n := 0) (v := (0 : Int32)) (by decide +kernel) kc_0 ?_
    exact ac_law_1836 hB28 h
  · replace h := h.2 hc
    refine tq_k_ic (n := 1) (v := (1 : Int32)) (by decide +kernel) kc_1 ?_
    refine tq_s_goto (off := 4) (tgt := 1836) (by decide +kernel) (by decide +kernel) ?_
    exact ac_law_1836 hB28 h
def wc_law_1795 (K : Nat × (Nat → Int32)) (B28 : Int32 → tq_S → Prop) (Q : tq_O → tq_S → Prop) (a5 : Int32) (s0 : Int32) (z : tq_S) : Prop := vp_in (a5 + (2 : Int32)) K.1 ∧ (((K.2 (Int32.toNatClampNeg (a5 + (2 : Int32)))) = 0 → wc_law_1809 K B28 Q a5 (0 : Int32) s0 z) ∧ (¬ (K.2 (Int32.toNatClampNeg (a5 + (2 : Int32)))) = 0 → wc_law_1809 K B28 Q a5 (1 : Int32) s0 z))
theorem ac_law_1795 {K : Nat × (Nat → Int32)} {x : Nat} {Q : tq_O → tq_S → Prop} {B28 : Int32 → tq_S → Prop} {a5 : Int32} {s0 : Int32} {z : tq_S} (hB28 : ∀ (b5 : Int32) (z : tq_S), B28 b5 z → tq_T K 93 x mm_law 28 [.ref 902, .ref 0, .ref 51, .ref 87, .ref 88, .int b5, .null, .null, .null] [] z Q) (h : wc_law_1795 K B28 Q a5 s0 z) : tq_T K 93 (x + 1) mm_law 1795 [.ref 902, .ref 0, .ref 51, .ref 87, .ref 88, .int a5, .null, .null, .null] [.int s0, .ref 0] z Q := by
  unfold wc_law_1795 at h
  refine tq_s_aload_n (kk := 0) (by decide +kernel) rfl ?_
  refine tq_s_iload (i := 5) (by decide +kernel) rfl ?_
  refine tq_k_ic (n := 2) (v := (2 : Int32)) (by decide +kernel) kc_2 ?_
  refine tq_s_iadd (by decide +kernel) ?_
  refine tq_s_caload (b := 902) (n := K.1) (f := K.2) (by decide +kernel) rfl h.1 ?_
  replace h := h.2
  refine tq_if_eq (off := 7) (tgt := 1808) (by decide +kernel) (by decide +kernel) (fun hc => ?_) (fun hc => ?_)
  · replace h := h.1 hc
    refine tq_k_ic (n := 0) (v := (0 : Int32)) (by decide +kernel) kc_0 ?_
    exact ac_law_1809 hB28 h
  · replace h := h.2 hc
    refine tq_k_ic (n := 1) (v := (1 : Int32)) (by decide +kernel) kc_1 ?_
    refine tq_s_goto (off := 4) (tgt := 1809) (by decide +kernel) (by decide +kernel) ?_
    exact ac_law_1809 hB28 h
def wc_law_1780 (K : Nat × (Nat → Int32)) (B28 : Int32 → tq_S → Prop) (Q : tq_O → tq_S → Prop) (a5 : Int32) (z : tq_S) : Prop := vp_in (a5 + (1 : Int32)) K.1 ∧ (((K.2 (Int32.toNatClampNeg (a5 + (1 : Int32)))) = 0 → wc_law_1795 K B28 Q a5 (0 : Int32) z) ∧ (¬ (K.2 (Int32.toNatClampNeg (a5 + (1 : Int32)))) = 0 → wc_law_1795 K B28 Q a5 (1 : Int32) z))
theorem ac_law_1780 {K : Nat × (Nat → Int32)} {x : Nat} {Q : tq_O → tq_S → Prop} {B28 : Int32 → tq_S → Prop} {a5 : Int32} {z : tq_S} (hB28 : ∀ (b5 : Int32) (z : tq_S), B28 b5 z → tq_T K 93 x mm_law 28 [.ref 902, .ref 0, .ref 51, .ref 87, .ref 88, .int b5, .null, .null, .null] [] z Q) (h : wc_law_1780 K B28 Q a5 z) : tq_T K 93 (x + 1) mm_law 1780 [.ref 902, .ref 0, .ref 51, .ref 87, .ref 88, .int a5, .null, .null, .null] [] z Q := by
  unfold wc_law_1780 at h
  refine tq_s_aload_n (kk := 1) (by decide +kernel) rfl ?_
  refine tq_s_aload_n (kk := 0) (by decide +kernel) rfl ?_
  refine tq_s_iload (i := 5) (by decide +kernel) rfl ?_
  refine tq_k_ic (n := 1) (v := (1 : Int32)) (by decide +kernel) kc_1 ?_
  refine tq_s_iadd (by decide +kernel) ?_
  refine tq_s_caload (b := 902) (n := K.1) (f := K.2) (by decide +kernel) rfl h.1 ?_
  replace h := h.2
  refine tq_if_eq (off := 7) (tgt := 1794) (by decide +kernel) (by decide +kernel) (fun hc => ?_) (fun hc => ?_)
  · replace h := h.1 hc
    refine tq_k_ic (n := 0) (v := (0 : Int32)) (by decide +kernel) kc_0 ?_
    exact ac_law_1795 hB28 h
  · replace h := h.2 hc
    refine tq_k_ic (n := 1) (v := (1 : Int32)) (by decide +kernel) kc_1 ?_
    refine tq_s_goto (off := 4) (tgt := 1795) (by decide +kernel) (by decide +kernel) ?_
    exact ac_law_1795 hB28 h
def wc_law_1777 (K : Nat × (Nat → Int32)) (B28 : Int32 → tq_S → Prop) (Q : tq_O → tq_S → Prop) (a5 : Int32) (z : tq_S) : Prop := wc_law_2748 K B28 Q a5 z
theorem ac_law_1777 {K : Nat × (Nat → Int32)} {x : Nat} {Q : tq_O → tq_S → Prop} {B28 : Int32 → tq_S → Prop} {a5 : Int32} {z : tq_S} (hB28 : ∀ (b5 : Int32) (z : tq_S), B28 b5 z → tq_T K 93 x mm_law 28 [.ref 902, .ref 0, .ref 51, .ref 87, .ref 88, .int b5, .null, .null, .null] [] z Q) (h : wc_law_1777 K B28 Q a5 z) : tq_T K 93 x mm_law 1777 [.ref 902, .ref 0, .ref 51, .ref 87, .ref 88, .int a5, .null, .null, .null] [] z Q := by
  unfold wc_law_1777 at h
  refine tq_s_goto (off := 971) (tgt := 2748) (by decide +kernel) (by decide +kernel) ?_
  exact ac_law_2748 hB28 h
def wc_law_1712 (K : Nat × (Nat → Int32)) (B28 : Int32 → tq_S → Prop) (Q : tq_O → tq_S → Prop) (a5 : Int32) (z : tq_S) : Prop := vp_in (a5 + (1 : Int32)) K.1 ∧ vp_in (a5 + (2 : Int32)) K.1 ∧ wm_L_pieceCell (K.2 (Int32.toNatClampNeg (a5 + (1 : Int32)))) (K.2 (Int32.toNatClampNeg (a5 + (2 : Int32)))) z (tq_wi fun r102 z101 => vp_in (a5 + (1 : Int32)) K.1 ∧ vp_in (a5 + (2 : Int32)) K.1 ∧ wm_X12_pieceCell (K.2 (Int32.toNatClampNeg (a5 + (1 : Int32)))) (K.2 (Int32.toNatClampNeg (a5 + (2 : Int32)))) z101 (tq_wi fun r104 z103 => wm_X12_thrown z103 (tq_wi fun r106 z105 => ((r106 = r102 → ((¬ r102 = 0 → wc_law_1777 K B28 Q a5 z105) ∧ (r102 = 0 → (((tq_al z105 87 (Int32.toNatClampNeg (0 : Int32))) = (Int32.toInt64 r104) → wc_law_1777 K B28 Q a5 z105) ∧ (¬ (tq_al z105 87 (Int32.toNatClampNeg (0 : Int32))) = (Int32.toInt64 r104) → Q (.inl (some (.int (0 : Int32)))) z105))))) ∧ (¬ r106 = r102 → Q (.inl (some (.int (0 : Int32)))) z105)))))
theorem ac_law_1712 {K : Nat × (Nat → Int32)} {x : Nat} {Q : tq_O → tq_S → Prop} {B28 : Int32 → tq_S → Prop} {a5 : Int32} {z : tq_S} (hB28 : ∀ (b5 : Int32) (z : tq_S), B28 b5 z → tq_T K 93 x mm_law 28 [.ref 902, .ref 0, .ref 51, .ref 87, .ref 88, .int b5, .null, .null, .null] [] z Q) (h : wc_law_1712 K B28 Q a5 z) : tq_T K 93 (x + 1) mm_law 1712 [.ref 902, .ref 0, .ref 51, .ref 87, .ref 88, .int a5, .null, .null, .null] [] z Q := by
  unfold wc_law_1712 at h
  refine tq_s_aload_n (kk := 1) (by decide +kernel) rfl ?_
  refine tq_s_aload_n (kk := 0) (by decide +kernel) rfl ?_
  refine tq_s_iload (i := 5) (by decide +kernel) rfl ?_
  refine tq_k_ic (n := 1) (v := (1 : Int32)) (by decide +kernel) kc_1 ?_
  refine tq_s_iadd (by decide +kernel) ?_
  refine tq_s_caload (b := 902) (n := K.1) (f := K.2) (by decide +kernel) rfl h.1 ?_
  replace h := h.2
  refine tq_s_aload_n (kk := 0) (by decide +kernel) rfl ?_
  refine tq_s_iload (i := 5) (by decide +kernel) rfl ?_
  refine tq_k_ic (n := 2) (v := (2 : Int32)) (by decide +kernel) kc_2 ?_
  refine tq_s_iadd (by decide +kernel) ?_
  refine tq_s_caload (b := 902) (n := K.1) (f := K.2) (by decide +kernel) rfl h.1 ?_
  replace h := h.2
  refine tq_s_aload_n (kk := 3) (by decide +kernel) rfl ?_
  refine tq_callSH (as := [.ref 0, .int (K.2 (Int32.toNatClampNeg (a5 + (1 : Int32)))), .int (K.2 (Int32.toNatClampNeg (a5 + (2 : Int32)))), .ref 87]) (st := []) (d1 := 3) (x1 := 1) (x2 := x) (by decide +kernel) ln_13_256 mf_L_pieceCell rfl (by decide) np_L_pieceCell rfl (Nat.le_of_ble_eq_true rfl) (by decide) (Nat.add_comm _ _) (tq_M_mono (am_L_pieceCell (x := 0) h) ?_)
  refine tq_wi_e (fun r102 z101 h => ?_)
  refine tq_s_istore (i := 6) (L9 := [.ref 902, .ref 0, .ref 51, .ref 87, .ref 88, .int a5, .int r102, .null, .null]) (by decide +kernel) (by decide) rfl ?_
  refine tq_s_aload_n (kk := 2) (by decide +kernel) rfl ?_
  refine tq_s_aload_n (kk := 0) (by decide +kernel) rfl ?_
  refine tq_s_iload (i := 5) (by decide +kernel) rfl ?_
  refine tq_k_ic (n := 1) (v := (1 : Int32)) (by decide +kernel) kc_1 ?_
  refine tq_s_iadd (by decide +kernel) ?_
  refine tq_s_caload (b := 902) (n := K.1) (f := K.2) (by decide +kernel) rfl h.1 ?_
  replace h := h.2
  refine tq_s_aload_n (kk := 0) (by decide +kernel) rfl ?_
  refine tq_s_iload (i := 5) (by decide +kernel) rfl ?_
  refine tq_k_ic (n := 2) (v := (2 : Int32)) (by decide +kernel) kc_2 ?_
  refine tq_s_iadd (by decide +kernel) ?_
  refine tq_s_caload (b := 902) (n := K.1) (f := K.2) (by decide +kernel) rfl h.1 ?_
  replace h := h.2
  refine tq_callV (as := [.int (K.2 (Int32.toNatClampNeg (a5 + (1 : Int32)))), .int (K.2 (Int32.toNatClampNeg (a5 + (2 : Int32))))]) (st := []) (d1 := 1) (x1 := 0) (x2 := x) (by decide +kernel) ln_13_258 mf_X12_pieceCell rfl sh_51 rfl (by decide) np_X12_pieceCell rfl (Nat.le_of_ble_eq_true rfl) (by decide) (Nat.zero_add _).symm (tq_M_mono (am_X12_pieceCell h) ?_)
  refine tq_wi_e (fun r104 z103 h => ?_)
  refine tq_s_istore (i := 7) (L9 := [.ref 902, .ref 0, .ref 51, .ref 87, .ref 88, .int a5, .int r102, .int r104, .null]) (by decide +kernel) (by decide) rfl ?_
  refine tq_s_aload_n (kk := 2) (by decide +kernel) rfl ?_
  refine tq_callV (as := []) (st := []) (d1 := 0) (x1 := 0) (x2 := x) (by decide +kernel) ln_13_157 mf_X12_thrown rfl sh_51 rfl (by decide) np_X12_thrown rfl (Nat.le_of_ble_eq_true rfl) (by decide) (Nat.zero_add _).symm (tq_M_mono (am_X12_thrown h) ?_)
  refine tq_wi_e (fun r106 z105 h => ?_)
  refine tq_s_iload (i := 6) (by decide +kernel) rfl ?_
  refine tq_icmp_eq (off := 5) (tgt := 1760) (by decide +kernel) (by decide +kernel) (fun hc => ?_) (fun hc => ?_)
  · replace h := h.1 hc
    refine tq_s_iload (i := 6) (by decide +kernel) rfl ?_
    refine tq_if_ne (off := 15) (tgt := 1777) (by decide +kernel) (by decide +kernel) (fun hc => ?_) (fun hc => ?_)
    · replace h := h.1 hc
      exact tq_to (tq_lk1 (tq_lk1 (tq_lk1 (tq_lk1 (tq_lk1 (tq_lk1 (tq_ld1 (tq_ld1 (tq_lk1 tq_l0))))))))) (ac_law_1777 hB28 h)
    · replace h := h.2 hc
      refine tq_s_aload_n (kk := 3) (by decide +kernel) rfl ?_
      refine tq_k_ic (n := 0) (v := (0 : Int32)) (by decide +kernel) kc_0 ?_
      refine tq_s_lald (by decide +kernel) sh_87 vi_0_1 ?_
      refine tq_s_iload (i := 7) (by decide +kernel) rfl ?_
      refine tq_s_i2l (by decide +kernel) ?_
      refine tq_lcmp_eq (off := 5) (tgt := 1777) (by decide +kernel) (by decide +kernel) (by decide +kernel) (fun hc => ?_) (fun hc => ?_)
      · replace h := h.1 hc
        exact tq_to (tq_lk1 (tq_lk1 (tq_lk1 (tq_lk1 (tq_lk1 (tq_lk1 (tq_ld1 (tq_ld1 (tq_lk1 tq_l0))))))))) (ac_law_1777 hB28 h)
      · replace h := h.2 hc
        refine tq_k_ic (n := 0) (v := (0 : Int32)) (by decide +kernel) kc_0 ?_
        exact tq_ret_z (st := []) (ty := .boolean) (by decide +kernel) (by decide +kernel) rfl h
  · replace h := h.2 hc
    refine tq_k_ic (n := 0) (v := (0 : Int32)) (by decide +kernel) kc_0 ?_
    exact tq_ret_z (st := []) (ty := .boolean) (by decide +kernel) (by decide +kernel) rfl h
def wc_law_1709 (K : Nat × (Nat → Int32)) (B28 : Int32 → tq_S → Prop) (Q : tq_O → tq_S → Prop) (a5 : Int32) (z : tq_S) : Prop := wc_law_2748 K B28 Q a5 z
theorem ac_law_1709 {K : Nat × (Nat → Int32)} {x : Nat} {Q : tq_O → tq_S → Prop} {B28 : Int32 → tq_S → Prop} {a5 : Int32} {z : tq_S} (hB28 : ∀ (b5 : Int32) (z : tq_S), B28 b5 z → tq_T K 93 x mm_law 28 [.ref 902, .ref 0, .ref 51, .ref 87, .ref 88, .int b5, .null, .null, .null] [] z Q) (h : wc_law_1709 K B28 Q a5 z) : tq_T K 93 x mm_law 1709 [.ref 902, .ref 0, .ref 51, .ref 87, .ref 88, .int a5, .null, .null, .null] [] z Q := by
  unfold wc_law_1709 at h
  refine tq_s_goto (off := 1039) (tgt := 2748) (by decide +kernel) (by decide +kernel) ?_
  exact ac_law_2748 hB28 h
def wc_law_1654 (K : Nat × (Nat → Int32)) (B28 : Int32 → tq_S → Prop) (Q : tq_O → tq_S → Prop) (a5 : Int32) (z : tq_S) : Prop := vp_in (a5 + (1 : Int32)) K.1 ∧ wm_L_roles ((Int32.toUInt32 (K.2 (Int32.toNatClampNeg (a5 + (1 : Int32))))) % 65536).toInt32 z (tq_wi fun r102 z101 => vp_in (a5 + (1 : Int32)) K.1 ∧ wm_X12_roles ((Int32.toUInt32 (K.2 (Int32.toNatClampNeg (a5 + (1 : Int32))))) % 65536).toInt32 z101 (tq_wi fun r104 z103 => wm_X12_thrown z103 (tq_wi fun r106 z105 => ((r106 = r102 → ((¬ r102 = 0 → wc_law_1709 K B28 Q a5 z105) ∧ (r102 = 0 → (((tq_al z105 87 (Int32.toNatClampNeg (0 : Int32))) = (Int32.toInt64 r104) → wc_law_1709 K B28 Q a5 z105) ∧ (¬ (tq_al z105 87 (Int32.toNatClampNeg (0 : Int32))) = (Int32.toInt64 r104) → Q (.inl (some (.int (0 : Int32)))) z105))))) ∧ (¬ r106 = r102 → Q (.inl (some (.int (0 : Int32)))) z105)))))
theorem ac_law_1654 {K : Nat × (Nat → Int32)} {x : Nat} {Q : tq_O → tq_S → Prop} {B28 : Int32 → tq_S → Prop} {a5 : Int32} {z : tq_S} (hB28 : ∀ (b5 : Int32) (z : tq_S), B28 b5 z → tq_T K 93 x mm_law 28 [.ref 902, .ref 0, .ref 51, .ref 87, .ref 88, .int b5, .null, .null, .null] [] z Q) (h : wc_law_1654 K B28 Q a5 z) : tq_T K 93 (x + 1) mm_law 1654 [.ref 902, .ref 0, .ref 51, .ref 87, .ref 88, .int a5, .null, .null, .null] [] z Q := by
  unfold wc_law_1654 at h
  refine tq_s_aload_n (kk := 1) (by decide +kernel) rfl ?_
  refine tq_s_aload_n (kk := 0) (by decide +kernel) rfl ?_
  refine tq_s_iload (i := 5) (by decide +kernel) rfl ?_
  refine tq_k_ic (n := 1) (v := (1 : Int32)) (by decide +kernel) kc_1 ?_
  refine tq_s_iadd (by decide +kernel) ?_
  refine tq_s_caload (b := 902) (n := K.1) (f := K.2) (by decide +kernel) rfl h.1 ?_
  replace h := h.2
  refine tq_s_i2c (by decide +kernel) ?_
  refine tq_s_aload_n (kk := 3) (by decide +kernel) rfl ?_
  refine tq_callSH (as := [.ref 0, .int ((Int32.toUInt32 (K.2 (Int32.toNatClampNeg (a5 + (1 : Int32))))) % 65536).toInt32, .ref 87]) (st := []) (d1 := 6) (x1 := 1) (x2 := x) (by decide +kernel) ln_13_253 mf_L_roles rfl (by decide) np_L_roles rfl (Nat.le_of_ble_eq_true rfl) (by decide) (Nat.add_comm _ _) (tq_M_mono (am_L_roles (x := 0) h) ?_)
  refine tq_wi_e (fun r102 z101 h => ?_)
  refine tq_s_istore (i := 6) (L9 := [.ref 902, .ref 0, .ref 51, .ref 87, .ref 88, .int a5, .int r102, .null, .null]) (by decide +kernel) (by decide) rfl ?_
  refine tq_s_aload_n (kk := 2) (by decide +kernel) rfl ?_
  refine tq_s_aload_n (kk := 0) (by decide +kernel) rfl ?_
  refine tq_s_iload (i := 5) (by decide +kernel) rfl ?_
  refine tq_k_ic (n := 1) (v := (1 : Int32)) (by decide +kernel) kc_1 ?_
  refine tq_s_iadd (by decide +kernel) ?_
  refine tq_s_caload (b := 902) (n := K.1) (f := K.2) (by decide +kernel) rfl h.1 ?_
  replace h := h.2
  refine tq_s_i2c (by decide +kernel) ?_
  refine tq_callV (as := [.int ((Int32.toUInt32 (K.2 (Int32.toNatClampNeg (a5 + (1 : Int32))))) % 65536).toInt32]) (st := []) (d1 := 44) (x1 := 0) (x2 := x) (by decide +kernel) ln_13_255 mf_X12_roles rfl sh_51 rfl (by decide) np_X12_roles rfl (Nat.le_of_ble_eq_true rfl) (by decide) (Nat.zero_add _).symm (tq_M_mono (am_X12_roles h) ?_)
  refine tq_wi_e (fun r104 z103 h => ?_)
  refine tq_s_istore (i := 7) (L9 := [.ref 902, .ref 0, .ref 51, .ref 87, .ref 88, .int a5, .int r102, .int r104, .null]) (by decide +kernel) (by decide) rfl ?_
  refine tq_s_aload_n (kk := 2) (by decide +kernel) rfl ?_
  refine tq_callV (as := []) (st := []) (d1 := 0) (x1 := 0) (x2 := x) (by decide +kernel) ln_13_157 mf_X12_thrown rfl sh_51 rfl (by decide) np_X12_thrown rfl (Nat.le_of_ble_eq_true rfl) (by decide) (Nat.zero_add _).symm (tq_M_mono (am_X12_thrown h) ?_)
  refine tq_wi_e (fun r106 z105 h => ?_)
  refine tq_s_iload (i := 6) (by decide +kernel) rfl ?_
  refine tq_icmp_eq (off := 5) (tgt := 1692) (by decide +kernel) (by decide +kernel) (fun hc => ?_) (fun hc => ?_)
  · replace h := h.1 hc
    refine tq_s_iload (i := 6) (by decide +kernel) rfl ?_
    refine tq_if_ne (off := 15) (tgt := 1709) (by decide +kernel) (by decide +kernel) (fun hc => ?_) (fun hc => ?_)
    · replace h := h.1 hc
      exact tq_to (tq_lk1 (tq_lk1 (tq_lk1 (tq_lk1 (tq_lk1 (tq_lk1 (tq_ld1 (tq_ld1 (tq_lk1 tq_l0))))))))) (ac_law_1709 hB28 h)
    · replace h := h.2 hc
      refine tq_s_aload_n (kk := 3) (by decide +kernel) rfl ?_
      refine tq_k_ic (n := 0) (v := (0 : Int32)) (by decide +kernel) kc_0 ?_
      refine tq_s_lald (by decide +kernel) sh_87 vi_0_1 ?_
      refine tq_s_iload (i := 7) (by decide +kernel) rfl ?_
      refine tq_s_i2l (by decide +kernel) ?_
      refine tq_lcmp_eq (off := 5) (tgt := 1709) (by decide +kernel) (by decide +kernel) (by decide +kernel) (fun hc => ?_) (fun hc => ?_)
      · replace h := h.1 hc
        exact tq_to (tq_lk1 (tq_lk1 (tq_lk1 (tq_lk1 (tq_lk1 (tq_lk1 (tq_ld1 (tq_ld1 (tq_lk1 tq_l0))))))))) (ac_law_1709 hB28 h)
      · replace h := h.2 hc
        refine tq_k_ic (n := 0) (v := (0 : Int32)) (by decide +kernel) kc_0 ?_
        exact tq_ret_z (st := []) (ty := .boolean) (by decide +kernel) (by decide +kernel) rfl h
  · replace h := h.2 hc
    refine tq_k_ic (n := 0) (v := (0 : Int32)) (by decide +kernel) kc_0 ?_
    exact tq_ret_z (st := []) (ty := .boolean) (by decide +kernel) (by decide +kernel) rfl h
def wc_law_1651 (K : Nat × (Nat → Int32)) (B28 : Int32 → tq_S → Prop) (Q : tq_O → tq_S → Prop) (a5 : Int32) (z : tq_S) : Prop := wc_law_2748 K B28 Q a5 z
theorem ac_law_1651 {K : Nat × (Nat → Int32)} {x : Nat} {Q : tq_O → tq_S → Prop} {B28 : Int32 → tq_S → Prop} {a5 : Int32} {z : tq_S} (hB28 : ∀ (b5 : Int32) (z : tq_S), B28 b5 z → tq_T K 93 x mm_law 28 [.ref 902, .ref 0, .ref 51, .ref 87, .ref 88, .int b5, .null, .null, .null] [] z Q) (h : wc_law_1651 K B28 Q a5 z) : tq_T K 93 x mm_law 1651 [.ref 902, .ref 0, .ref 51, .ref 87, .ref 88, .int a5, .null, .null, .null] [] z Q := by
  unfold wc_law_1651 at h
  refine tq_s_goto (off := 1097) (tgt := 2748) (by decide +kernel) (by decide +kernel) ?_
  exact ac_law_2748 hB28 h
def wc_law_1586 (K : Nat × (Nat → Int32)) (B28 : Int32 → tq_S → Prop) (Q : tq_O → tq_S → Prop) (a5 : Int32) (z : tq_S) : Prop := vp_in (a5 + (1 : Int32)) K.1 ∧ vp_in (a5 + (2 : Int32)) K.1 ∧ wm_L_role (K.2 (Int32.toNatClampNeg (a5 + (1 : Int32)))) (K.2 (Int32.toNatClampNeg (a5 + (2 : Int32)))) z (tq_wi fun r102 z101 => vp_in (a5 + (1 : Int32)) K.1 ∧ vp_in (a5 + (2 : Int32)) K.1 ∧ wm_X12_role (K.2 (Int32.toNatClampNeg (a5 + (1 : Int32)))) (K.2 (Int32.toNatClampNeg (a5 + (2 : Int32)))) z101 (tq_wi fun r104 z103 => wm_X12_thrown z103 (tq_wi fun r106 z105 => ((r106 = r102 → ((¬ r102 = 0 → wc_law_1651 K B28 Q a5 z105) ∧ (r102 = 0 → (((tq_al z105 87 (Int32.toNatClampNeg (0 : Int32))) = (Int32.toInt64 r104) → wc_law_1651 K B28 Q a5 z105) ∧ (¬ (tq_al z105 87 (Int32.toNatClampNeg (0 : Int32))) = (Int32.toInt64 r104) → Q (.inl (some (.int (0 : Int32)))) z105))))) ∧ (¬ r106 = r102 → Q (.inl (some (.int (0 : Int32)))) z105)))))
theorem ac_law_1586 {K : Nat × (Nat → Int32)} {x : Nat} {Q : tq_O → tq_S → Prop} {B28 : Int32 → tq_S → Prop} {a5 : Int32} {z : tq_S} (hB28 : ∀ (b5 : Int32) (z : tq_S), B28 b5 z → tq_T K 93 x mm_law 28 [.ref 902, .ref 0, .ref 51, .ref 87, .ref 88, .int b5, .null, .null, .null] [] z Q) (h : wc_law_1586 K B28 Q a5 z) : tq_T K 93 (x + 1) mm_law 1586 [.ref 902, .ref 0, .ref 51, .ref 87, .ref 88, .int a5, .null, .null, .null] [] z Q := by
  unfold wc_law_1586 at h
  refine tq_s_aload_n (kk := 1) (by decide +kernel) rfl ?_
  refine tq_s_aload_n (kk := 0) (by decide +kernel) rfl ?_
  refine tq_s_iload (i := 5) (by decide +kernel) rfl ?_
  refine tq_k_ic (n := 1) (v := (1 : Int32)) (by decide +kernel) kc_1 ?_
  refine tq_s_iadd (by decide +kernel) ?_
  refine tq_s_caload (b := 902) (n := K.1) (f := K.2) (by decide +kernel) rfl h.1 ?_
  replace h := h.2
  refine tq_s_aload_n (kk := 0) (by decide +kernel) rfl ?_
  refine tq_s_iload (i := 5) (by decide +kernel) rfl ?_
  refine tq_k_ic (n := 2) (v := (2 : Int32)) (by decide +kernel) kc_2 ?_
  refine tq_s_iadd (by decide +kernel) ?_
  refine tq_s_caload (b := 902) (n := K.1) (f := K.2) (by decide +kernel) rfl h.1 ?_
  replace h := h.2
  refine tq_s_aload_n (kk := 3) (by decide +kernel) rfl ?_
  refine tq_callSH (as := [.ref 0, .int (K.2 (Int32.toNatClampNeg (a5 + (1 : Int32)))), .int (K.2 (Int32.toNatClampNeg (a5 + (2 : Int32)))), .ref 87]) (st := []) (d1 := 6) (x1 := 1) (x2 := x) (by decide +kernel) ln_13_250 mf_L_role rfl (by decide) np_L_role rfl (Nat.le_of_ble_eq_true rfl) (by decide) (Nat.add_comm _ _) (tq_M_mono (am_L_role (x := 0) h) ?_)
  refine tq_wi_e (fun r102 z101 h => ?_)
  refine tq_s_istore (i := 6) (L9 := [.ref 902, .ref 0, .ref 51, .ref 87, .ref 88, .int a5, .int r102, .null, .null]) (by decide +kernel) (by decide) rfl ?_
  refine tq_s_aload_n (kk := 2) (by decide +kernel) rfl ?_
  refine tq_s_aload_n (kk := 0) (by decide +kernel) rfl ?_
  refine tq_s_iload (i := 5) (by decide +kernel) rfl ?_
  refine tq_k_ic (n := 1) (v := (1 : Int32)) (by decide +kernel) kc_1 ?_
  refine tq_s_iadd (by decide +kernel) ?_
  refine tq_s_caload (b := 902) (n := K.1) (f := K.2) (by decide +kernel) rfl h.1 ?_
  replace h := h.2
  refine tq_s_aload_n (kk := 0) (by decide +kernel) rfl ?_
  refine tq_s_iload (i := 5) (by decide +kernel) rfl ?_
  refine tq_k_ic (n := 2) (v := (2 : Int32)) (by decide +kernel) kc_2 ?_
  refine tq_s_iadd (by decide +kernel) ?_
  refine tq_s_caload (b := 902) (n := K.1) (f := K.2) (by decide +kernel) rfl h.1 ?_
  replace h := h.2
  refine tq_callV (as := [.int (K.2 (Int32.toNatClampNeg (a5 + (1 : Int32)))), .int (K.2 (Int32.toNatClampNeg (a5 + (2 : Int32))))]) (st := []) (d1 := 44) (x1 := 0) (x2 := x) (by decide +kernel) ln_13_252 mf_X12_role rfl sh_51 rfl (by decide) np_X12_role rfl (Nat.le_of_ble_eq_true rfl) (by decide) (Nat.zero_add _).symm (tq_M_mono (am_X12_role h) ?_)
  refine tq_wi_e (fun r104 z103 h => ?_)
  refine tq_s_istore (i := 7) (L9 := [.ref 902, .ref 0, .ref 51, .ref 87, .ref 88, .int a5, .int r102, .int r104, .null]) (by decide +kernel) (by decide) rfl ?_
  refine tq_s_aload_n (kk := 2) (by decide +kernel) rfl ?_
  refine tq_callV (as := []) (st := []) (d1 := 0) (x1 := 0) (x2 := x) (by decide +kernel) ln_13_157 mf_X12_thrown rfl sh_51 rfl (by decide) np_X12_thrown rfl (Nat.le_of_ble_eq_true rfl) (by decide) (Nat.zero_add _).symm (tq_M_mono (am_X12_thrown h) ?_)
  refine tq_wi_e (fun r106 z105 h => ?_)
  refine tq_s_iload (i := 6) (by decide +kernel) rfl ?_
  refine tq_icmp_eq (off := 5) (tgt := 1634) (by decide +kernel) (by decide +kernel) (fun hc => ?_) (fun hc => ?_)
  · replace h := h.1 hc
    refine tq_s_iload (i := 6) (by decide +kernel) rfl ?_
    refine tq_if_ne (off := 15) (tgt := 1651) (by decide +kernel) (by decide +kernel) (fun hc => ?_) (fun hc => ?_)
    · replace h := h.1 hc
      exact tq_to (tq_lk1 (tq_lk1 (tq_lk1 (tq_lk1 (tq_lk1 (tq_lk1 (tq_ld1 (tq_ld1 (tq_lk1 tq_l0))))))))) (ac_law_1651 hB28 h)
    · replace h := h.2 hc
      refine tq_s_aload_n (kk := 3) (by decide +kernel) rfl ?_
      refine tq_k_ic (n := 0) (v := (0 : Int32)) (by decide +kernel) kc_0 ?_
      refine tq_s_lald (by decide +kernel) sh_87 vi_0_1 ?_
      refine tq_s_iload (i := 7) (by decide +kernel) rfl ?_
      refine tq_s_i2l (by decide +kernel) ?_
      refine tq_lcmp_eq (off := 5) (tgt := 1651) (by decide +kernel) (by decide +kernel) (by decide +kernel) (fun hc => ?_) (fun hc => ?_)
      · replace h := h.1 hc
        exact tq_to (tq_lk1 (tq_lk1 (tq_lk1 (tq_lk1 (tq_lk1 (tq_lk1 (tq_ld1 (tq_ld1 (tq_lk1 tq_l0))))))))) (ac_law_1651 hB28 h)
      · replace h := h.2 hc
        refine tq_k_ic (n := 0) (v := (0 : Int32)) (by decide +kernel) kc_0 ?_
        exact tq_ret_z (st := []) (ty := .boolean) (by decide +kernel) (by decide +kernel) rfl h
  · replace h := h.2 hc
    refine tq_k_ic (n := 0) (v := (0 : Int32)) (by decide +kernel) kc_0 ?_
    exact tq_ret_z (st := []) (ty := .boolean) (by decide +kernel) (by decide +kernel) rfl h
def wc_law_1573 (K : Nat × (Nat → Int32)) (B28 : Int32 → tq_S → Prop) (Q : tq_O → tq_S → Prop) (a5 : Int32) (z : tq_S) : Prop := wm_X11_free z (tq_wi fun r102 z101 => wm_X12_free z101 (tq_wi fun r104 z103 => ((r102 = r104 → wc_law_2748 K B28 Q a5 z103) ∧ (¬ r102 = r104 → Q (.inl (some (.int (0 : Int32)))) z103))))
theorem ac_law_1573 {K : Nat × (Nat → Int32)} {x : Nat} {Q : tq_O → tq_S → Prop} {B28 : Int32 → tq_S → Prop} {a5 : Int32} {z : tq_S} (hB28 : ∀ (b5 : Int32) (z : tq_S), B28 b5 z → tq_T K 93 x mm_law 28 [.ref 902, .ref 0, .ref 51, .ref 87, .ref 88, .int b5, .null, .null, .null] [] z Q) (h : wc_law_1573 K B28 Q a5 z) : tq_T K 93 (x + 1) mm_law 1573 [.ref 902, .ref 0, .ref 51, .ref 87, .ref 88, .int a5, .null, .null, .null] [] z Q := by
  unfold wc_law_1573 at h
  refine tq_s_aload_n (kk := 1) (by decide +kernel) rfl ?_
  refine tq_callV (as := []) (st := []) (d1 := 5) (x1 := 0) (x2 := (x + 1)) (by decide +kernel) ln_13_246 mf_X11_free rfl sh_0 rfl (by decide) np_X11_free rfl (Nat.le_of_ble_eq_true rfl) (by decide) (Nat.zero_add _).symm (tq_M_mono (am_X11_free h) ?_)
  refine tq_wi_e (fun r102 z101 h => ?_)
  refine tq_s_aload_n (kk := 2) (by decide +kernel) rfl ?_
  refine tq_callV (as := []) (st := [.int r102]) (d1 := 43) (x1 := 0) (x2 := (x + 1)) (by decide +kernel) ln_13_249 mf_X12_free rfl sh_51 rfl (by decide) np_X12_free rfl (Nat.le_of_ble_eq_true rfl) (by decide) (Nat.zero_add _).symm (tq_M_mono (am_X12_free h) ?_)
  refine tq_wi_e (fun r104 z103 h => ?_)
  refine tq_icmp_eq (off := 1167) (tgt := 2748) (by decide +kernel) (by decide +kernel) (fun hc => ?_) (fun hc => ?_)
  · replace h := h.1 hc
    exact tq_Tx (ac_law_2748 hB28 h)
  · replace h := h.2 hc
    refine tq_k_ic (n := 0) (v := (0 : Int32)) (by decide +kernel) kc_0 ?_
    exact tq_ret_z (st := []) (ty := .boolean) (by decide +kernel) (by decide +kernel) rfl h
def wc_law_1570 (K : Nat × (Nat → Int32)) (B28 : Int32 → tq_S → Prop) (Q : tq_O → tq_S → Prop) (a5 : Int32) (z : tq_S) : Prop := wc_law_2748 K B28 Q a5 z
theorem ac_law_1570 {K : Nat × (Nat → Int32)} {x : Nat} {Q : tq_O → tq_S → Prop} {B28 : Int32 → tq_S → Prop} {a5 : Int32} {z : tq_S} (hB28 : ∀ (b5 : Int32) (z : tq_S), B28 b5 z → tq_T K 93 x mm_law 28 [.ref 902, .ref 0, .ref 51, .ref 87, .ref 88, .int b5, .null, .null, .null] [] z Q) (h : wc_law_1570 K B28 Q a5 z) : tq_T K 93 x mm_law 1570 [.ref 902, .ref 0, .ref 51, .ref 87, .ref 88, .int a5, .null, .null, .null] [] z Q := by
  unfold wc_law_1570 at h
  refine tq_s_goto (off := 1178) (tgt := 2748) (by decide +kernel) (by decide +kernel) ?_
  exact ac_law_2748 hB28 h
def wc_law_1529 (K : Nat × (Nat → Int32)) (B28 : Int32 → tq_S → Prop) (Q : tq_O → tq_S → Prop) (a5 : Int32) (z : tq_S) : Prop := wm_L_cuts z (tq_wi fun r102 z101 => wm_X12_cuts z101 (tq_wi fun r104 z103 => wm_X12_thrown z103 (tq_wi fun r106 z105 => ((r106 = r102 → ((¬ r102 = 0 → wc_law_1570 K B28 Q a5 z105) ∧ (r102 = 0 → (((tq_al z105 87 (Int32.toNatClampNeg (0 : Int32))) = (Int32.toInt64 r104) → wc_law_1570 K B28 Q a5 z105) ∧ (¬ (tq_al z105 87 (Int32.toNatClampNeg (0 : Int32))) = (Int32.toInt64 r104) → Q (.inl (some (.int (0 : Int32)))) z105))))) ∧ (¬ r106 = r102 → Q (.inl (some (.int (0 : Int32)))) z105)))))
theorem ac_law_1529 {K : Nat × (Nat → Int32)} {x : Nat} {Q : tq_O → tq_S → Prop} {B28 : Int32 → tq_S → Prop} {a5 : Int32} {z : tq_S} (hB28 : ∀ (b5 : Int32) (z : tq_S), B28 b5 z → tq_T K 93 x mm_law 28 [.ref 902, .ref 0, .ref 51, .ref 87, .ref 88, .int b5, .null, .null, .null] [] z Q) (h : wc_law_1529 K B28 Q a5 z) : tq_T K 93 (x + 1) mm_law 1529 [.ref 902, .ref 0, .ref 51, .ref 87, .ref 88, .int a5, .null, .null, .null] [] z Q := by
  unfold wc_law_1529 at h
  refine tq_s_aload_n (kk := 1) (by decide +kernel) rfl ?_
  refine tq_s_aload_n (kk := 3) (by decide +kernel) rfl ?_
  refine tq_callSH (as := [.ref 0, .ref 87]) (st := []) (d1 := 2) (x1 := 1) (x2 := x) (by decide +kernel) ln_13_243 mf_L_cuts rfl (by decide) np_L_cuts rfl (Nat.le_of_ble_eq_true rfl) (by decide) (Nat.add_comm _ _) (tq_M_mono (am_L_cuts (x := 0) h) ?_)
  refine tq_wi_e (fun r102 z101 h => ?_)
  refine tq_s_istore (i := 6) (L9 := [.ref 902, .ref 0, .ref 51, .ref 87, .ref 88, .int a5, .int r102, .null, .null]) (by decide +kernel) (by decide) rfl ?_
  refine tq_s_aload_n (kk := 2) (by decide +kernel) rfl ?_
  refine tq_callV (as := []) (st := []) (d1 := 2) (x1 := 0) (x2 := x) (by decide +kernel) ln_13_245 mf_X12_cuts rfl sh_51 rfl (by decide) np_X12_cuts rfl (Nat.le_of_ble_eq_true rfl) (by decide) (Nat.zero_add _).symm (tq_M_mono (am_X12_cuts h) ?_)
  refine tq_wi_e (fun r104 z103 h => ?_)
  refine tq_s_istore (i := 7) (L9 := [.ref 902, .ref 0, .ref 51, .ref 87, .ref 88, .int a5, .int r102, .int r104, .null]) (by decide +kernel) (by decide) rfl ?_
  refine tq_s_aload_n (kk := 2) (by decide +kernel) rfl ?_
  refine tq_callV (as := []) (st := []) (d1 := 0) (x1 := 0) (x2 := x) (by decide +kernel) ln_13_157 mf_X12_thrown rfl sh_51 rfl (by decide) np_X12_thrown rfl (Nat.le_of_ble_eq_true rfl) (by decide) (Nat.zero_add _).symm (tq_M_mono (am_X12_thrown h) ?_)
  refine tq_wi_e (fun r106 z105 h => ?_)
  refine tq_s_iload (i := 6) (by decide +kernel) rfl ?_
  refine tq_icmp_eq (off := 5) (tgt := 1553) (by decide +kernel) (by decide +kernel) (fun hc => ?_) (fun hc => ?_)
  · replace h := h.1 hc
    refine tq_s_iload (i := 6) (by decide +kernel) rfl ?_
    refine tq_if_ne (off := 15) (tgt := 1570) (by decide +kernel) (by decide +kernel) (fun hc => ?_) (fun hc => ?_)
    · replace h := h.1 hc
      exact tq_to (tq_lk1 (tq_lk1 (tq_lk1 (tq_lk1 (tq_lk1 (tq_lk1 (tq_ld1 (tq_ld1 (tq_lk1 tq_l0))))))))) (ac_law_1570 hB28 h)
    · replace h := h.2 hc
      refine tq_s_aload_n (kk := 3) (by decide +kernel) rfl ?_
      refine tq_k_ic (n := 0) (v := (0 : Int32)) (by decide +kernel) kc_0 ?_
      refine tq_s_lald (by decide +kernel) sh_87 vi_0_1 ?_
      refine tq_s_iload (i := 7) (by decide +kernel) rfl ?_
      refine tq_s_i2l (by decide +kernel) ?_
      refine tq_lcmp_eq (off := 5) (tgt := 1570) (by decide +kernel) (by decide +kernel) (by decide +kernel) (fun hc => ?_) (fun hc => ?_)
      · replace h := h.1 hc
        exact tq_to (tq_lk1 (tq_lk1 (tq_lk1 (tq_lk1 (tq_lk1 (tq_lk1 (tq_ld1 (tq_ld1 (tq_lk1 tq_l0))))))))) (ac_law_1570 hB28 h)
      · replace h := h.2 hc
        refine tq_k_ic (n := 0) (v := (0 : Int32)) (by decide +kernel) kc_0 ?_
        exact tq_ret_z (st := []) (ty := .boolean) (by decide +kernel) (by decide +kernel) rfl h
  · replace h := h.2 hc
    refine tq_k_ic (n := 0) (v := (0 : Int32)) (by decide +kernel) kc_0 ?_
    exact tq_ret_z (st := []) (ty := .boolean) (by decide +kernel) (by decide +kernel) rfl h
def wc_law_1526 (K : Nat × (Nat → Int32)) (B28 : Int32 → tq_S → Prop) (Q : tq_O → tq_S → Prop) (a5 : Int32) (z : tq_S) : Prop := wc_law_2748 K B28 Q a5 z
theorem ac_law_1526 {K : Nat × (Nat → Int32)} {x : Nat} {Q : tq_O → tq_S → Prop} {B28 : Int32 → tq_S → Prop} {a5 : Int32} {z : tq_S} (hB28 : ∀ (b5 : Int32) (z : tq_S), B28 b5 z → tq_T K 93 x mm_law 28 [.ref 902, .ref 0, .ref 51, .ref 87, .ref 88, .int b5, .null, .null, .null] [] z Q) (h : wc_law_1526 K B28 Q a5 z) : tq_T K 93 x mm_law 1526 [.ref 902, .ref 0, .ref 51, .ref 87, .ref 88, .int a5, .null, .null, .null] [] z Q := by
  unfold wc_law_1526 at h
  refine tq_s_goto (off := 1222) (tgt := 2748) (by decide +kernel) (by decide +kernel) ?_
  exact ac_law_2748 hB28 h
def wc_law_1461 (K : Nat × (Nat → Int32)) (B28 : Int32 → tq_S → Prop) (Q : tq_O → tq_S → Prop) (a5 : Int32) (z : tq_S) : Prop := vp_in (a5 + (1 : Int32)) K.1 ∧ vp_in (a5 + (2 : Int32)) K.1 ∧ wm_L_height (K.2 (Int32.toNatClampNeg (a5 + (1 : Int32)))) (K.2 (Int32.toNatClampNeg (a5 + (2 : Int32)))) z (tq_wi fun r102 z101 => vp_in (a5 + (1 : Int32)) K.1 ∧ vp_in (a5 + (2 : Int32)) K.1 ∧ wm_X12_height (K.2 (Int32.toNatClampNeg (a5 + (1 : Int32)))) (K.2 (Int32.toNatClampNeg (a5 + (2 : Int32)))) z101 (tq_wi fun r104 z103 => wm_X12_thrown z103 (tq_wi fun r106 z105 => ((r106 = r102 → ((¬ r102 = 0 → wc_law_1526 K B28 Q a5 z105) ∧ (r102 = 0 → (((tq_al z105 87 (Int32.toNatClampNeg (0 : Int32))) = (Int32.toInt64 r104) → wc_law_1526 K B28 Q a5 z105) ∧ (¬ (tq_al z105 87 (Int32.toNatClampNeg (0 : Int32))) = (Int32.toInt64 r104) → Q (.inl (some (.int (0 : Int32)))) z105))))) ∧ (¬ r106 = r102 → Q (.inl (some (.int (0 : Int32)))) z105)))))
theorem ac_law_1461 {K : Nat × (Nat → Int32)} {x : Nat} {Q : tq_O → tq_S → Prop} {B28 : Int32 → tq_S → Prop} {a5 : Int32} {z : tq_S} (hB28 : ∀ (b5 : Int32) (z : tq_S), B28 b5 z → tq_T K 93 x mm_law 28 [.ref 902, .ref 0, .ref 51, .ref 87, .ref 88, .int b5, .null, .null, .null] [] z Q) (h : wc_law_1461 K B28 Q a5 z) : tq_T K 93 (x + 1) mm_law 1461 [.ref 902, .ref 0, .ref 51, .ref 87, .ref 88, .int a5, .null, .null, .null] [] z Q := by
  unfold wc_law_1461 at h
  refine tq_s_aload_n (kk := 1) (by decide +kernel) rfl ?_
  refine tq_s_aload_n (kk := 0) (by decide +kernel) rfl ?_
  refine tq_s_iload (i := 5) (by decide +kernel) rfl ?_
  refine tq_k_ic (n := 1) (v := (1 : Int32)) (by decide +kernel) kc_1 ?_
  refine tq_s_iadd (by decide +kernel) ?_
  refine tq_s_caload (b := 902) (n := K.1) (f := K.2) (by decide +kernel) rfl h.1 ?_
  replace h := h.2
  refine tq_s_aload_n (kk := 0) (by decide +kernel) rfl ?_
  refine tq_s_iload (i := 5) (by decide +kernel) rfl ?_
  refine tq_k_ic (n := 2) (v := (2 : Int32)) (by decide +kernel) kc_2 ?_
  refine tq_s_iadd (by decide +kernel) ?_
  refine tq_s_caload (b := 902) (n := K.1) (f := K.2) (by decide +kernel) rfl h.1 ?_
  replace h := h.2
  refine tq_s_aload_n (kk := 3) (by decide +kernel) rfl ?_
  refine tq_callSH (as := [.ref 0, .int (K.2 (Int32.toNatClampNeg (a5 + (1 : Int32)))), .int (K.2 (Int32.toNatClampNeg (a5 + (2 : Int32)))), .ref 87]) (st := []) (d1 := 6) (x1 := 1) (x2 := x) (by decide +kernel) ln_13_240 mf_L_height rfl (by decide) np_L_height rfl (Nat.le_of_ble_eq_true rfl) (by decide) (Nat.add_comm _ _) (tq_M_mono (am_L_height (x := 0) h) ?_)
  refine tq_wi_e (fun r102 z101 h => ?_)
  refine tq_s_istore (i := 6) (L9 := [.ref 902, .ref 0, .ref 51, .ref 87, .ref 88, .int a5, .int r102, .null, .null]) (by decide +kernel) (by decide) rfl ?_
  refine tq_s_aload_n (kk := 2) (by decide +kernel) rfl ?_
  refine tq_s_aload_n (kk := 0) (by decide +kernel) rfl ?_
  refine tq_s_iload (i := 5) (by decide +kernel) rfl ?_
  refine tq_k_ic (n := 1) (v := (1 : Int32)) (by decide +kernel) kc_1 ?_
  refine tq_s_iadd (by decide +kernel) ?_
  refine tq_s_caload (b := 902) (n := K.1) (f := K.2) (by decide +kernel) rfl h.1 ?_
  replace h := h.2
  refine tq_s_aload_n (kk := 0) (by decide +kernel) rfl ?_
  refine tq_s_iload (i := 5) (by decide +kernel) rfl ?_
  refine tq_k_ic (n := 2) (v := (2 : Int32)) (by decide +kernel) kc_2 ?_
  refine tq_s_iadd (by decide +kernel) ?_
  refine tq_s_caload (b := 902) (n := K.1) (f := K.2) (by decide +kernel) rfl h.1 ?_
  replace h := h.2
  refine tq_callV (as := [.int (K.2 (Int32.toNatClampNeg (a5 + (1 : Int32)))), .int (K.2 (Int32.toNatClampNeg (a5 + (2 : Int32))))]) (st := []) (d1 := 5) (x1 := 0) (x2 := x) (by decide +kernel) ln_13_242 mf_X12_height rfl sh_51 rfl (by decide) np_X12_height rfl (Nat.le_of_ble_eq_true rfl) (by decide) (Nat.zero_add _).symm (tq_M_mono (am_X12_height h) ?_)
  refine tq_wi_e (fun r104 z103 h => ?_)
  refine tq_s_istore (i := 7) (L9 := [.ref 902, .ref 0, .ref 51, .ref 87, .ref 88, .int a5, .int r102, .int r104, .null]) (by decide +kernel) (by decide) rfl ?_
  refine tq_s_aload_n (kk := 2) (by decide +kernel) rfl ?_
  refine tq_callV (as := []) (st := []) (d1 := 0) (x1 := 0) (x2 := x) (by decide +kernel) ln_13_157 mf_X12_thrown rfl sh_51 rfl (by decide) np_X12_thrown rfl (Nat.le_of_ble_eq_true rfl) (by decide) (Nat.zero_add _).symm (tq_M_mono (am_X12_thrown h) ?_)
  refine tq_wi_e (fun r106 z105 h => ?_)
  refine tq_s_iload (i := 6) (by decide +kernel) rfl ?_
  refine tq_icmp_eq (off := 5) (tgt := 1509) (by decide +kernel) (by decide +kernel) (fun hc => ?_) (fun hc => ?_)
  · replace h := h.1 hc
    refine tq_s_iload (i := 6) (by decide +kernel) rfl ?_
    refine tq_if_ne (off := 15) (tgt := 1526) (by decide +kernel) (by decide +kernel) (fun hc => ?_) (fun hc => ?_)
    · replace h := h.1 hc
      exact tq_to (tq_lk1 (tq_lk1 (tq_lk1 (tq_lk1 (tq_lk1 (tq_lk1 (tq_ld1 (tq_ld1 (tq_lk1 tq_l0))))))))) (ac_law_1526 hB28 h)
    · replace h := h.2 hc
      refine tq_s_aload_n (kk := 3) (by decide +kernel) rfl ?_
      refine tq_k_ic (n := 0) (v := (0 : Int32)) (by decide +kernel) kc_0 ?_
      refine tq_s_lald (by decide +kernel) sh_87 vi_0_1 ?_
      refine tq_s_iload (i := 7) (by decide +kernel) rfl ?_
      refine tq_s_i2l (by decide +kernel) ?_
      refine tq_lcmp_eq (off := 5) (tgt := 1526) (by decide +kernel) (by decide +kernel) (by decide +kernel) (fun hc => ?_) (fun hc => ?_)
      · replace h := h.1 hc
        exact tq_to (tq_lk1 (tq_lk1 (tq_lk1 (tq_lk1 (tq_lk1 (tq_lk1 (tq_ld1 (tq_ld1 (tq_lk1 tq_l0))))))))) (ac_law_1526 hB28 h)
      · replace h := h.2 hc
        refine tq_k_ic (n := 0) (v := (0 : Int32)) (by decide +kernel) kc_0 ?_
        exact tq_ret_z (st := []) (ty := .boolean) (by decide +kernel) (by decide +kernel) rfl h
  · replace h := h.2 hc
    refine tq_k_ic (n := 0) (v := (0 : Int32)) (by decide +kernel) kc_0 ?_
    exact tq_ret_z (st := []) (ty := .boolean) (by decide +kernel) (by decide +kernel) rfl h
def wc_law_1458 (K : Nat × (Nat → Int32)) (B28 : Int32 → tq_S → Prop) (Q : tq_O → tq_S → Prop) (a5 : Int32) (z : tq_S) : Prop := wc_law_2748 K B28 Q a5 z
theorem ac_law_1458 {K : Nat × (Nat → Int32)} {x : Nat} {Q : tq_O → tq_S → Prop} {B28 : Int32 → tq_S → Prop} {a5 : Int32} {z : tq_S} (hB28 : ∀ (b5 : Int32) (z : tq_S), B28 b5 z → tq_T K 93 x mm_law 28 [.ref 902, .ref 0, .ref 51, .ref 87, .ref 88, .int b5, .null, .null, .null] [] z Q) (h : wc_law_1458 K B28 Q a5 z) : tq_T K 93 x mm_law 1458 [.ref 902, .ref 0, .ref 51, .ref 87, .ref 88, .int a5, .null, .null, .null] [] z Q := by
  unfold wc_law_1458 at h
  refine tq_s_goto (off := 1290) (tgt := 2748) (by decide +kernel) (by decide +kernel) ?_
  exact ac_law_2748 hB28 h
def wc_law_1417 (K : Nat × (Nat → Int32)) (B28 : Int32 → tq_S → Prop) (Q : tq_O → tq_S → Prop) (a5 : Int32) (z : tq_S) : Prop := wm_L_apart z (tq_wi fun r102 z101 => wm_X12_apart z101 (tq_wi fun r104 z103 => wm_X12_thrown z103 (tq_wi fun r106 z105 => ((r106 = r102 → ((¬ r102 = 0 → wc_law_1458 K B28 Q a5 z105) ∧ (r102 = 0 → (((tq_al z105 87 (Int32.toNatClampNeg (0 : Int32))) = (Int32.toInt64 r104) → wc_law_1458 K B28 Q a5 z105) ∧ (¬ (tq_al z105 87 (Int32.toNatClampNeg (0 : Int32))) = (Int32.toInt64 r104) → Q (.inl (some (.int (0 : Int32)))) z105))))) ∧ (¬ r106 = r102 → Q (.inl (some (.int (0 : Int32)))) z105)))))
theorem ac_law_1417 {K : Nat × (Nat → Int32)} {x : Nat} {Q : tq_O → tq_S → Prop} {B28 : Int32 → tq_S → Prop} {a5 : Int32} {z : tq_S} (hB28 : ∀ (b5 : Int32) (z : tq_S), B28 b5 z → tq_T K 93 x mm_law 28 [.ref 902, .ref 0, .ref 51, .ref 87, .ref 88, .int b5, .null, .null, .null] [] z Q) (h : wc_law_1417 K B28 Q a5 z) : tq_T K 93 (x + 1) mm_law 1417 [.ref 902, .ref 0, .ref 51, .ref 87, .ref 88, .int a5, .null, .null, .null] [] z Q := by
  unfold wc_law_1417 at h
  refine tq_s_aload_n (kk := 1) (by decide +kernel) rfl ?_
  refine tq_s_aload_n (kk := 3) (by decide +kernel) rfl ?_
  refine tq_callSH (as := [.ref 0, .ref 87]) (st := []) (d1 := 6) (x1 := 1) (x2 := x) (by decide +kernel) ln_13_237 mf_L_apart rfl (by decide) np_L_apart rfl (Nat.le_of_ble_eq_true rfl) (by decide) (Nat.add_comm _ _) (tq_M_mono (am_L_apart (x := 0) h) ?_)
  refine tq_wi_e (fun r102 z101 h => ?_)
  refine tq_s_istore (i := 6) (L9 := [.ref 902, .ref 0, .ref 51, .ref 87, .ref 88, .int a5, .int r102, .null, .null]) (by decide +kernel) (by decide) rfl ?_
  refine tq_s_aload_n (kk := 2) (by decide +kernel) rfl ?_
  refine tq_callV (as := []) (st := []) (d1 := 5) (x1 := 0) (x2 := x) (by decide +kernel) ln_13_239 mf_X12_apart rfl sh_51 rfl (by decide) np_X12_apart rfl (Nat.le_of_ble_eq_true rfl) (by decide) (Nat.zero_add _).symm (tq_M_mono (am_X12_apart h) ?_)
  refine tq_wi_e (fun r104 z103 h => ?_)
  refine tq_s_istore (i := 7) (L9 := [.ref 902, .ref 0, .ref 51, .ref 87, .ref 88, .int a5, .int r102, .int r104, .null]) (by decide +kernel) (by decide) rfl ?_
  refine tq_s_aload_n (kk := 2) (by decide +kernel) rfl ?_
  refine tq_callV (as := []) (st := []) (d1 := 0) (x1 := 0) (x2 := x) (by decide +kernel) ln_13_157 mf_X12_thrown rfl sh_51 rfl (by decide) np_X12_thrown rfl (Nat.le_of_ble_eq_true rfl) (by decide) (Nat.zero_add _).symm (tq_M_mono (am_X12_thrown h) ?_)
  refine tq_wi_e (fun r106 z105 h => ?_)
  refine tq_s_iload (i := 6) (by decide +kernel) rfl ?_
  refine tq_icmp_eq (off := 5) (tgt := 1441) (by decide +kernel) (by decide +kernel) (fun hc => ?_) (fun hc => ?_)
  · replace h := h.1 hc
    refine tq_s_iload (i := 6) (by decide +kernel) rfl ?_
    refine tq_if_ne (off := 15) (tgt := 1458) (by decide +kernel) (by decide +kernel) (fun hc => ?_) (fun hc => ?_)
    · replace h := h.1 hc
      exact tq_to (tq_lk1 (tq_lk1 (tq_lk1 (tq_lk1 (tq_lk1 (tq_lk1 (tq_ld1 (tq_ld1 (tq_lk1 tq_l0))))))))) (ac_law_1458 hB28 h)
    · replace h := h.2 hc
      refine tq_s_aload_n (kk := 3) (by decide +kernel) rfl ?_
      refine tq_k_ic (n := 0) (v := (0 : Int32)) (by decide +kernel) kc_0 ?_
      refine tq_s_lald (by decide +kernel) sh_87 vi_0_1 ?_
      refine tq_s_iload (i := 7) (by decide +kernel) rfl ?_
      refine tq_s_i2l (by decide +kernel) ?_
      refine tq_lcmp_eq (off := 5) (tgt := 1458) (by decide +kernel) (by decide +kernel) (by decide +kernel) (fun hc => ?_) (fun hc => ?_)
      · replace h := h.1 hc
        exact tq_to (tq_lk1 (tq_lk1 (tq_lk1 (tq_lk1 (tq_lk1 (tq_lk1 (tq_ld1 (tq_ld1 (tq_lk1 tq_l0))))))))) (ac_law_1458 hB28 h)
      · replace h := h.2 hc
        refine tq_k_ic (n := 0) (v := (0 : Int32)) (by decide +kernel) kc_0 ?_
        exact tq_ret_z (st := []) (ty := .boolean) (by decide +kernel) (by decide +kernel) rfl h
  · replace h := h.2 hc
    refine tq_k_ic (n := 0) (v := (0 : Int32)) (by decide +kernel) kc_0 ?_
    exact tq_ret_z (st := []) (ty := .boolean) (by decide +kernel) (by decide +kernel) rfl h
def wc_law_1414 (K : Nat × (Nat → Int32)) (B28 : Int32 → tq_S → Prop) (Q : tq_O → tq_S → Prop) (a5 : Int32) (z : tq_S) : Prop := wc_law_2748 K B28 Q a5 z
theorem ac_law_1414 {K : Nat × (Nat → Int32)} {x : Nat} {Q : tq_O → tq_S → Prop} {B28 : Int32 → tq_S → Prop} {a5 : Int32} {z : tq_S} (hB28 : ∀ (b5 : Int32) (z : tq_S), B28 b5 z → tq_T K 93 x mm_law 28 [.ref 902, .ref 0, .ref 51, .ref 87, .ref 88, .int b5, .null, .null, .null] [] z Q) (h : wc_law_1414 K B28 Q a5 z) : tq_T K 93 x mm_law 1414 [.ref 902, .ref 0, .ref 51, .ref 87, .ref 88, .int a5, .null, .null, .null] [] z Q := by
  unfold wc_law_1414 at h
  refine tq_s_goto (off := 1334) (tgt := 2748) (by decide +kernel) (by decide +kernel) ?_
  exact ac_law_2748 hB28 h
def wc_law_1373 (K : Nat × (Nat → Int32)) (B28 : Int32 → tq_S → Prop) (Q : tq_O → tq_S → Prop) (a5 : Int32) (z : tq_S) : Prop := wm_L_keep z (tq_wi fun r102 z101 => wm_X12_keep z101 (tq_wi fun r104 z103 => wm_X12_thrown z103 (tq_wi fun r106 z105 => ((r106 = r102 → ((¬ r102 = 0 → wc_law_1414 K B28 Q a5 z105) ∧ (r102 = 0 → (((tq_al z105 87 (Int32.toNatClampNeg (0 : Int32))) = (Int32.toInt64 r104) → wc_law_1414 K B28 Q a5 z105) ∧ (¬ (tq_al z105 87 (Int32.toNatClampNeg (0 : Int32))) = (Int32.toInt64 r104) → Q (.inl (some (.int (0 : Int32)))) z105))))) ∧ (¬ r106 = r102 → Q (.inl (some (.int (0 : Int32)))) z105)))))
theorem ac_law_1373 {K : Nat × (Nat → Int32)} {x : Nat} {Q : tq_O → tq_S → Prop} {B28 : Int32 → tq_S → Prop} {a5 : Int32} {z : tq_S} (hB28 : ∀ (b5 : Int32) (z : tq_S), B28 b5 z → tq_T K 93 x mm_law 28 [.ref 902, .ref 0, .ref 51, .ref 87, .ref 88, .int b5, .null, .null, .null] [] z Q) (h : wc_law_1373 K B28 Q a5 z) : tq_T K 93 (x + 1) mm_law 1373 [.ref 902, .ref 0, .ref 51, .ref 87, .ref 88, .int a5, .null, .null, .null] [] z Q := by
  unfold wc_law_1373 at h
  refine tq_s_aload_n (kk := 1) (by decide +kernel) rfl ?_
  refine tq_s_aload_n (kk := 3) (by decide +kernel) rfl ?_
  refine tq_callSH (as := [.ref 0, .ref 87]) (st := []) (d1 := 2) (x1 := 1) (x2 := x) (by decide +kernel) ln_13_234 mf_L_keep rfl (by decide) np_L_keep rfl (Nat.le_of_ble_eq_true rfl) (by decide) (Nat.add_comm _ _) (tq_M_mono (am_L_keep (x := 0) h) ?_)
  refine tq_wi_e (fun r102 z101 h => ?_)
  refine tq_s_istore (i := 6) (L9 := [.ref 902, .ref 0, .ref 51, .ref 87, .ref 88, .int a5, .int r102, .null, .null]) (by decide +kernel) (by decide) rfl ?_
  refine tq_s_aload_n (kk := 2) (by decide +kernel) rfl ?_
  refine tq_callV (as := []) (st := []) (d1 := 2) (x1 := 0) (x2 := x) (by decide +kernel) ln_13_236 mf_X12_keep rfl sh_51 rfl (by decide) np_X12_keep rfl (Nat.le_of_ble_eq_true rfl) (by decide) (Nat.zero_add _).symm (tq_M_mono (am_X12_keep h) ?_)
  refine tq_wi_e (fun r104 z103 h => ?_)
  refine tq_s_istore (i := 7) (L9 := [.ref 902, .ref 0, .ref 51, .ref 87, .ref 88, .int a5, .int r102, .int r104, .null]) (by decide +kernel) (by decide) rfl ?_
  refine tq_s_aload_n (kk := 2) (by decide +kernel) rfl ?_
  refine tq_callV (as := []) (st := []) (d1 := 0) (x1 := 0) (x2 := x) (by decide +kernel) ln_13_157 mf_X12_thrown rfl sh_51 rfl (by decide) np_X12_thrown rfl (Nat.le_of_ble_eq_true rfl) (by decide) (Nat.zero_add _).symm (tq_M_mono (am_X12_thrown h) ?_)
  refine tq_wi_e (fun r106 z105 h => ?_)
  refine tq_s_iload (i := 6) (by decide +kernel) rfl ?_
  refine tq_icmp_eq (off := 5) (tgt := 1397) (by decide +kernel) (by decide +kernel) (fun hc => ?_) (fun hc => ?_)
  · replace h := h.1 hc
    refine tq_s_iload (i := 6) (by decide +kernel) rfl ?_
    refine tq_if_ne (off := 15) (tgt := 1414) (by decide +kernel) (by decide +kernel) (fun hc => ?_) (fun hc => ?_)
    · replace h := h.1 hc
      exact tq_to (tq_lk1 (tq_lk1 (tq_lk1 (tq_lk1 (tq_lk1 (tq_lk1 (tq_ld1 (tq_ld1 (tq_lk1 tq_l0))))))))) (ac_law_1414 hB28 h)
    · replace h := h.2 hc
      refine tq_s_aload_n (kk := 3) (by decide +kernel) rfl ?_
      refine tq_k_ic (n := 0) (v := (0 : Int32)) (by decide +kernel) kc_0 ?_
      refine tq_s_lald (by decide +kernel) sh_87 vi_0_1 ?_
      refine tq_s_iload (i := 7) (by decide +kernel) rfl ?_
      refine tq_s_i2l (by decide +kernel) ?_
      refine tq_lcmp_eq (off := 5) (tgt := 1414) (by decide +kernel) (by decide +kernel) (by decide +kernel) (fun hc => ?_) (fun hc => ?_)
      · replace h := h.1 hc
        exact tq_to (tq_lk1 (tq_lk1 (tq_lk1 (tq_lk1 (tq_lk1 (tq_lk1 (tq_ld1 (tq_ld1 (tq_lk1 tq_l0))))))))) (ac_law_1414 hB28 h)
      · replace h := h.2 hc
        refine tq_k_ic (n := 0) (v := (0 : Int32)) (by decide +kernel) kc_0 ?_
        exact tq_ret_z (st := []) (ty := .boolean) (by decide +kernel) (by decide +kernel) rfl h
  · replace h := h.2 hc
    refine tq_k_ic (n := 0) (v := (0 : Int32)) (by decide +kernel) kc_0 ?_
    exact tq_ret_z (st := []) (ty := .boolean) (by decide +kernel) (by decide +kernel) rfl h
def wc_law_1370 (K : Nat × (Nat → Int32)) (B28 : Int32 → tq_S → Prop) (Q : tq_O → tq_S → Prop) (a5 : Int32) (z : tq_S) : Prop := wc_law_2748 K B28 Q a5 z
theorem ac_law_1370 {K : Nat × (Nat → Int32)} {x : Nat} {Q : tq_O → tq_S → Prop} {B28 : Int32 → tq_S → Prop} {a5 : Int32} {z : tq_S} (hB28 : ∀ (b5 : Int32) (z : tq_S), B28 b5 z → tq_T K 93 x mm_law 28 [.ref 902, .ref 0, .ref 51, .ref 87, .ref 88, .int b5, .null, .null, .null] [] z Q) (h : wc_law_1370 K B28 Q a5 z) : tq_T K 93 x mm_law 1370 [.ref 902, .ref 0, .ref 51, .ref 87, .ref 88, .int a5, .null, .null, .null] [] z Q := by
  unfold wc_law_1370 at h
  refine tq_s_goto (off := 1378) (tgt := 2748) (by decide +kernel) (by decide +kernel) ?_
  exact ac_law_2748 hB28 h
def wc_law_1329 (K : Nat × (Nat → Int32)) (B28 : Int32 → tq_S → Prop) (Q : tq_O → tq_S → Prop) (a5 : Int32) (z : tq_S) : Prop := wm_L_undo z (tq_wi fun r102 z101 => wm_X12_undo z101 (tq_wi fun r104 z103 => wm_X12_thrown z103 (tq_wi fun r106 z105 => ((r106 = r102 → ((¬ r102 = 0 → wc_law_1370 K B28 Q a5 z105) ∧ (r102 = 0 → (((tq_al z105 87 (Int32.toNatClampNeg (0 : Int32))) = (Int32.toInt64 r104) → wc_law_1370 K B28 Q a5 z105) ∧ (¬ (tq_al z105 87 (Int32.toNatClampNeg (0 : Int32))) = (Int32.toInt64 r104) → Q (.inl (some (.int (0 : Int32)))) z105))))) ∧ (¬ r106 = r102 → Q (.inl (some (.int (0 : Int32)))) z105)))))
theorem ac_law_1329 {K : Nat × (Nat → Int32)} {x : Nat} {Q : tq_O → tq_S → Prop} {B28 : Int32 → tq_S → Prop} {a5 : Int32} {z : tq_S} (hB28 : ∀ (b5 : Int32) (z : tq_S), B28 b5 z → tq_T K 93 x mm_law 28 [.ref 902, .ref 0, .ref 51, .ref 87, .ref 88, .int b5, .null, .null, .null] [] z Q) (h : wc_law_1329 K B28 Q a5 z) : tq_T K 93 (x + 1) mm_law 1329 [.ref 902, .ref 0, .ref 51, .ref 87, .ref 88, .int a5, .null, .null, .null] [] z Q := by
  unfold wc_law_1329 at h
  refine tq_s_aload_n (kk := 1) (by decide +kernel) rfl ?_
  refine tq_s_aload_n (kk := 3) (by decide +kernel) rfl ?_
  refine tq_callSH (as := [.ref 0, .ref 87]) (st := []) (d1 := 2) (x1 := 1) (x2 := x) (by decide +kernel) ln_13_231 mf_L_undo rfl (by decide) np_L_undo rfl (Nat.le_of_ble_eq_true rfl) (by decide) (Nat.add_comm _ _) (tq_M_mono (am_L_undo (x := 0) h) ?_)
  refine tq_wi_e (fun r102 z101 h => ?_)
  refine tq_s_istore (i := 6) (L9 := [.ref 902, .ref 0, .ref 51, .ref 87, .ref 88, .int a5, .int r102, .null, .null]) (by decide +kernel) (by decide) rfl ?_
  refine tq_s_aload_n (kk := 2) (by decide +kernel) rfl ?_
  refine tq_callV (as := []) (st := []) (d1 := 1) (x1 := 0) (x2 := x) (by decide +kernel) ln_13_233 mf_X12_undo rfl sh_51 rfl (by decide) np_X12_undo rfl (Nat.le_of_ble_eq_true rfl) (by decide) (Nat.zero_add _).symm (tq_M_mono (am_X12_undo h) ?_)
  refine tq_wi_e (fun r104 z103 h => ?_)
  refine tq_s_istore (i := 7) (L9 := [.ref 902, .ref 0, .ref 51, .ref 87, .ref 88, .int a5, .int r102, .int r104, .null]) (by decide +kernel) (by decide) rfl ?_
  refine tq_s_aload_n (kk := 2) (by decide +kernel) rfl ?_
  refine tq_callV (as := []) (st := []) (d1 := 0) (x1 := 0) (x2 := x) (by decide +kernel) ln_13_157 mf_X12_thrown rfl sh_51 rfl (by decide) np_X12_thrown rfl (Nat.le_of_ble_eq_true rfl) (by decide) (Nat.zero_add _).symm (tq_M_mono (am_X12_thrown h) ?_)
  refine tq_wi_e (fun r106 z105 h => ?_)
  refine tq_s_iload (i := 6) (by decide +kernel) rfl ?_
  refine tq_icmp_eq (off := 5) (tgt := 1353) (by decide +kernel) (by decide +kernel) (fun hc => ?_) (fun hc => ?_)
  · replace h := h.1 hc
    refine tq_s_iload (i := 6) (by decide +kernel) rfl ?_
    refine tq_if_ne (off := 15) (tgt := 1370) (by decide +kernel) (by decide +kernel) (fun hc => ?_) (fun hc => ?_)
    · replace h := h.1 hc
      exact tq_to (tq_lk1 (tq_lk1 (tq_lk1 (tq_lk1 (tq_lk1 (tq_lk1 (tq_ld1 (tq_ld1 (tq_lk1 tq_l0))))))))) (ac_law_1370 hB28 h)
    · replace h := h.2 hc
      refine tq_s_aload_n (kk := 3) (by decide +kernel) rfl ?_
      refine tq_k_ic (n := 0) (v := (0 : Int32)) (by decide +kernel) kc_0 ?_
      refine tq_s_lald (by decide +kernel) sh_87 vi_0_1 ?_
      refine tq_s_iload (i := 7) (by decide +kernel) rfl ?_
      refine tq_s_i2l (by decide +kernel) ?_
      refine tq_lcmp_eq (off := 5) (tgt := 1370) (by decide +kernel) (by decide +kernel) (by decide +kernel) (fun hc => ?_) (fun hc => ?_)
      · replace h := h.1 hc
        exact tq_to (tq_lk1 (tq_lk1 (tq_lk1 (tq_lk1 (tq_lk1 (tq_lk1 (tq_ld1 (tq_ld1 (tq_lk1 tq_l0))))))))) (ac_law_1370 hB28 h)
      · replace h := h.2 hc
        refine tq_k_ic (n := 0) (v := (0 : Int32)) (by decide +kernel) kc_0 ?_
        exact tq_ret_z (st := []) (ty := .boolean) (by decide +kernel) (by decide +kernel) rfl h
  · replace h := h.2 hc
    refine tq_k_ic (n := 0) (v := (0 : Int32)) (by decide +kernel) kc_0 ?_
    exact tq_ret_z (st := []) (ty := .boolean) (by decide +kernel) (by decide +kernel) rfl h
def wc_law_1326 (K : Nat × (Nat → Int32)) (B28 : Int32 → tq_S → Prop) (Q : tq_O → tq_S → Prop) (a5 : Int32) (z : tq_S) : Prop := wc_law_2748 K B28 Q a5 z
theorem ac_law_1326 {K : Nat × (Nat → Int32)} {x : Nat} {Q : tq_O → tq_S → Prop} {B28 : Int32 → tq_S → Prop} {a5 : Int32} {z : tq_S} (hB28 : ∀ (b5 : Int32) (z : tq_S), B28 b5 z → tq_T K 93 x mm_law 28 [.ref 902, .ref 0, .ref 51, .ref 87, .ref 88, .int b5, .null, .null, .null] [] z Q) (h : wc_law_1326 K B28 Q a5 z) : tq_T K 93 x mm_law 1326 [.ref 902, .ref 0, .ref 51, .ref 87, .ref 88, .int a5, .null, .null, .null] [] z Q := by
  unfold wc_law_1326 at h
  refine tq_s_goto (off := 1422) (tgt := 2748) (by decide +kernel) (by decide +kernel) ?_
  exact ac_law_2748 hB28 h
def wc_law_1273 (K : Nat × (Nat → Int32)) (B28 : Int32 → tq_S → Prop) (Q : tq_O → tq_S → Prop) (a5 : Int32) (z : tq_S) : Prop := vp_in (a5 + (1 : Int32)) K.1 ∧ wm_L_flip (K.2 (Int32.toNatClampNeg (a5 + (1 : Int32)))) z (tq_wi fun r102 z101 => vp_in (a5 + (1 : Int32)) K.1 ∧ wm_X12_flip (K.2 (Int32.toNatClampNeg (a5 + (1 : Int32)))) z101 (tq_wi fun r104 z103 => wm_X12_thrown z103 (tq_wi fun r106 z105 => ((r106 = r102 → ((¬ r102 = 0 → wc_law_1326 K B28 Q a5 z105) ∧ (r102 = 0 → (((tq_al z105 87 (Int32.toNatClampNeg (0 : Int32))) = (Int32.toInt64 r104) → wc_law_1326 K B28 Q a5 z105) ∧ (¬ (tq_al z105 87 (Int32.toNatClampNeg (0 : Int32))) = (Int32.toInt64 r104) → Q (.inl (some (.int (0 : Int32)))) z105))))) ∧ (¬ r106 = r102 → Q (.inl (some (.int (0 : Int32)))) z105)))))
theorem ac_law_1273 {K : Nat × (Nat → Int32)} {x : Nat} {Q : tq_O → tq_S → Prop} {B28 : Int32 → tq_S → Prop} {a5 : Int32} {z : tq_S} (hB28 : ∀ (b5 : Int32) (z : tq_S), B28 b5 z → tq_T K 93 x mm_law 28 [.ref 902, .ref 0, .ref 51, .ref 87, .ref 88, .int b5, .null, .null, .null] [] z Q) (h : wc_law_1273 K B28 Q a5 z) : tq_T K 93 (x + 1) mm_law 1273 [.ref 902, .ref 0, .ref 51, .ref 87, .ref 88, .int a5, .null, .null, .null] [] z Q := by
  unfold wc_law_1273 at h
  refine tq_s_aload_n (kk := 1) (by decide +kernel) rfl ?_
  refine tq_s_aload_n (kk := 0) (by decide +kernel) rfl ?_
  refine tq_s_iload (i := 5) (by decide +kernel) rfl ?_
  refine tq_k_ic (n := 1) (v := (1 : Int32)) (by decide +kernel) kc_1 ?_
  refine tq_s_iadd (by decide +kernel) ?_
  refine tq_s_caload (b := 902) (n := K.1) (f := K.2) (by decide +kernel) rfl h.1 ?_
  replace h := h.2
  refine tq_s_aload_n (kk := 3) (by decide +kernel) rfl ?_
  refine tq_callSH (as := [.ref 0, .int (K.2 (Int32.toNatClampNeg (a5 + (1 : Int32)))), .ref 87]) (st := []) (d1 := 5) (x1 := 1) (x2 := x) (by decide +kernel) ln_13_228 mf_L_flip rfl (by decide) np_L_flip rfl (Nat.le_of_ble_eq_true rfl) (by decide) (Nat.add_comm _ _) (tq_M_mono (am_L_flip (x := 0) h) ?_)
  refine tq_wi_e (fun r102 z101 h => ?_)
  refine tq_s_istore (i := 6) (L9 := [.ref 902, .ref 0, .ref 51, .ref 87, .ref 88, .int a5, .int r102, .null, .null]) (by decide +kernel) (by decide) rfl ?_
  refine tq_s_aload_n (kk := 2) (by decide +kernel) rfl ?_
  refine tq_s_aload_n (kk := 0) (by decide +kernel) rfl ?_
  refine tq_s_iload (i := 5) (by decide +kernel) rfl ?_
  refine tq_k_ic (n := 1) (v := (1 : Int32)) (by decide +kernel) kc_1 ?_
  refine tq_s_iadd (by decide +kernel) ?_
  refine tq_s_caload (b := 902) (n := K.1) (f := K.2) (by decide +kernel) rfl h.1 ?_
  replace h := h.2
  refine tq_callV (as := [.int (K.2 (Int32.toNatClampNeg (a5 + (1 : Int32))))]) (st := []) (d1 := 4) (x1 := 0) (x2 := x) (by decide +kernel) ln_13_230 mf_X12_flip rfl sh_51 rfl (by decide) np_X12_flip rfl (Nat.le_of_ble_eq_true rfl) (by decide) (Nat.zero_add _).symm (tq_M_mono (am_X12_flip h) ?_)
  refine tq_wi_e (fun r104 z103 h => ?_)
  refine tq_s_istore (i := 7) (L9 := [.ref 902, .ref 0, .ref 51, .ref 87, .ref 88, .int a5, .int r102, .int r104, .null]) (by decide +kernel) (by decide) rfl ?_
  refine tq_s_aload_n (kk := 2) (by decide +kernel) rfl ?_
  refine tq_callV (as := []) (st := []) (d1 := 0) (x1 := 0) (x2 := x) (by decide +kernel) ln_13_157 mf_X12_thrown rfl sh_51 rfl (by decide) np_X12_thrown rfl (Nat.le_of_ble_eq_true rfl) (by decide) (Nat.zero_add _).symm (tq_M_mono (am_X12_thrown h) ?_)
  refine tq_wi_e (fun r106 z105 h => ?_)
  refine tq_s_iload (i := 6) (by decide +kernel) rfl ?_
  refine tq_icmp_eq (off := 5) (tgt := 1309) (by decide +kernel) (by decide +kernel) (fun hc => ?_) (fun hc => ?_)
  · replace h := h.1 hc
    refine tq_s_iload (i := 6) (by decide +kernel) rfl ?_
    refine tq_if_ne (off := 15) (tgt := 1326) (by decide +kernel) (by decide +kernel) (fun hc => ?_) (fun hc => ?_)
    · replace h := h.1 hc
      exact tq_to (tq_lk1 (tq_lk1 (tq_lk1 (tq_lk1 (tq_lk1 (tq_lk1 (tq_ld1 (tq_ld1 (tq_lk1 tq_l0))))))))) (ac_law_1326 hB28 h)
    · replace h := h.2 hc
      refine tq_s_aload_n (kk := 3) (by decide +kernel) rfl ?_
      refine tq_k_ic (n := 0) (v := (0 : Int32)) (by decide +kernel) kc_0 ?_
      refine tq_s_lald (by decide +kernel) sh_87 vi_0_1 ?_
      refine tq_s_iload (i := 7) (by decide +kernel) rfl ?_
      refine tq_s_i2l (by decide +kernel) ?_
      refine tq_lcmp_eq (off := 5) (tgt := 1326) (by decide +kernel) (by decide +kernel) (by decide +kernel) (fun hc => ?_) (fun hc => ?_)
      · replace h := h.1 hc
        exact tq_to (tq_lk1 (tq_lk1 (tq_lk1 (tq_lk1 (tq_lk1 (tq_lk1 (tq_ld1 (tq_ld1 (tq_lk1 tq_l0))))))))) (ac_law_1326 hB28 h)
      · replace h := h.2 hc
        refine tq_k_ic (n := 0) (v := (0 : Int32)) (by decide +kernel) kc_0 ?_
        exact tq_ret_z (st := []) (ty := .boolean) (by decide +kernel) (by decide +kernel) rfl h
  · replace h := h.2 hc
    refine tq_k_ic (n := 0) (v := (0 : Int32)) (by decide +kernel) kc_0 ?_
    exact tq_ret_z (st := []) (ty := .boolean) (by decide +kernel) (by decide +kernel) rfl h
def wc_law_1270 (K : Nat × (Nat → Int32)) (B28 : Int32 → tq_S → Prop) (Q : tq_O → tq_S → Prop) (a5 : Int32) (z : tq_S) : Prop := wc_law_2748 K B28 Q a5 z
theorem ac_law_1270 {K : Nat × (Nat → Int32)} {x : Nat} {Q : tq_O → tq_S → Prop} {B28 : Int32 → tq_S → Prop} {a5 : Int32} {z : tq_S} (hB28 : ∀ (b5 : Int32) (z : tq_S), B28 b5 z → tq_T K 93 x mm_law 28 [.ref 902, .ref 0, .ref 51, .ref 87, .ref 88, .int b5, .null, .null, .null] [] z Q) (h : wc_law_1270 K B28 Q a5 z) : tq_T K 93 x mm_law 1270 [.ref 902, .ref 0, .ref 51, .ref 87, .ref 88, .int a5, .null, .null, .null] [] z Q := by
  unfold wc_law_1270 at h
  refine tq_s_goto (off := 1478) (tgt := 2748) (by decide +kernel) (by decide +kernel) ?_
  exact ac_law_2748 hB28 h
def wc_law_1229 (K : Nat × (Nat → Int32)) (B28 : Int32 → tq_S → Prop) (Q : tq_O → tq_S → Prop) (a5 : Int32) (z : tq_S) : Prop := wm_L_flips z (tq_wi fun r102 z101 => wm_X12_flips z101 (tq_wi fun r104 z103 => wm_X12_thrown z103 (tq_wi fun r106 z105 => ((r106 = r102 → ((¬ r102 = 0 → wc_law_1270 K B28 Q a5 z105) ∧ (r102 = 0 → (((tq_al z105 87 (Int32.toNatClampNeg (0 : Int32))) = (Int32.toInt64 r104) → wc_law_1270 K B28 Q a5 z105) ∧ (¬ (tq_al z105 87 (Int32.toNatClampNeg (0 : Int32))) = (Int32.toInt64 r104) → Q (.inl (some (.int (0 : Int32)))) z105))))) ∧ (¬ r106 = r102 → Q (.inl (some (.int (0 : Int32)))) z105)))))
theorem ac_law_1229 {K : Nat × (Nat → Int32)} {x : Nat} {Q : tq_O → tq_S → Prop} {B28 : Int32 → tq_S → Prop} {a5 : Int32} {z : tq_S} (hB28 : ∀ (b5 : Int32) (z : tq_S), B28 b5 z → tq_T K 93 x mm_law 28 [.ref 902, .ref 0, .ref 51, .ref 87, .ref 88, .int b5, .null, .null, .null] [] z Q) (h : wc_law_1229 K B28 Q a5 z) : tq_T K 93 (x + 1) mm_law 1229 [.ref 902, .ref 0, .ref 51, .ref 87, .ref 88, .int a5, .null, .null, .null] [] z Q := by
  unfold wc_law_1229 at h
  refine tq_s_aload_n (kk := 1) (by decide +kernel) rfl ?_
  refine tq_s_aload_n (kk := 3) (by decide +kernel) rfl ?_
  refine tq_callSH (as := [.ref 0, .ref 87]) (st := []) (d1 := 5) (x1 := 1) (x2 := x) (by decide +kernel) ln_13_225 mf_L_flips rfl (by decide) np_L_flips rfl (Nat.le_of_ble_eq_true rfl) (by decide) (Nat.add_comm _ _) (tq_M_mono (am_L_flips (x := 0) h) ?_)
  refine tq_wi_e (fun r102 z101 h => ?_)
  refine tq_s_istore (i := 6) (L9 := [.ref 902, .ref 0, .ref 51, .ref 87, .ref 88, .int a5, .int r102, .null, .null]) (by decide +kernel) (by decide) rfl ?_
  refine tq_s_aload_n (kk := 2) (by decide +kernel) rfl ?_
  refine tq_callV (as := []) (st := []) (d1 := 4) (x1 := 0) (x2 := x) (by decide +kernel) ln_13_227 mf_X12_flips rfl sh_51 rfl (by decide) np_X12_flips rfl (Nat.le_of_ble_eq_true rfl) (by decide) (Nat.zero_add _).symm (tq_M_mono (am_X12_flips h) ?_)
  refine tq_wi_e (fun r104 z103 h => ?_)
  refine tq_s_istore (i := 7) (L9 := [.ref 902, .ref 0, .ref 51, .ref 87, .ref 88, .int a5, .int r102, .int r104, .null]) (by decide +kernel) (by decide) rfl ?_
  refine tq_s_aload_n (kk := 2) (by decide +kernel) rfl ?_
  refine tq_callV (as := []) (st := []) (d1 := 0) (x1 := 0) (x2 := x) (by decide +kernel) ln_13_157 mf_X12_thrown rfl sh_51 rfl (by decide) np_X12_thrown rfl (Nat.le_of_ble_eq_true rfl) (by decide) (Nat.zero_add _).symm (tq_M_mono (am_X12_thrown h) ?_)
  refine tq_wi_e (fun r106 z105 h => ?_)
  refine tq_s_iload (i := 6) (by decide +kernel) rfl ?_
  refine tq_icmp_eq (off := 5) (tgt := 1253) (by decide +kernel) (by decide +kernel) (fun hc => ?_) (fun hc => ?_)
  · replace h := h.1 hc
    refine tq_s_iload (i := 6) (by decide +kernel) rfl ?_
    refine tq_if_ne (off := 15) (tgt := 1270) (by decide +kernel) (by decide +kernel) (fun hc => ?_) (fun hc => ?_)
    · replace h := h.1 hc
      exact tq_to (tq_lk1 (tq_lk1 (tq_lk1 (tq_lk1 (tq_lk1 (tq_lk1 (tq_ld1 (tq_ld1 (tq_lk1 tq_l0))))))))) (ac_law_1270 hB28 h)
    · replace h := h.2 hc
      refine tq_s_aload_n (kk := 3) (by decide +kernel) rfl ?_
      refine tq_k_ic (n := 0) (v := (0 : Int32)) (by decide +kernel) kc_0 ?_
      refine tq_s_lald (by decide +kernel) sh_87 vi_0_1 ?_
      refine tq_s_iload (i := 7) (by decide +kernel) rfl ?_
      refine tq_s_i2l (by decide +kernel) ?_
      refine tq_lcmp_eq (off := 5) (tgt := 1270) (by decide +kernel) (by decide +kernel) (by decide +kernel) (fun hc => ?_) (fun hc => ?_)
      · replace h := h.1 hc
        exact tq_to (tq_lk1 (tq_lk1 (tq_lk1 (tq_lk1 (tq_lk1 (tq_lk1 (tq_ld1 (tq_ld1 (tq_lk1 tq_l0))))))))) (ac_law_1270 hB28 h)
      · replace h := h.2 hc
        refine tq_k_ic (n := 0) (v := (0 : Int32)) (by decide +kernel) kc_0 ?_
        exact tq_ret_z (st := []) (ty := .boolean) (by decide +kernel) (by decide +kernel) rfl h
  · replace h := h.2 hc
    refine tq_k_ic (n := 0) (v := (0 : Int32)) (by decide +kernel) kc_0 ?_
    exact tq_ret_z (st := []) (ty := .boolean) (by decide +kernel) (by decide +kernel) rfl h
def wc_law_1226 (K : Nat × (Nat → Int32)) (B28 : Int32 → tq_S → Prop) (Q : tq_O → tq_S → Prop) (a5 : Int32) (z : tq_S) : Prop := wc_law_2748 K B28 Q a5 z
theorem ac_law_1226 {K : Nat × (Nat → Int32)} {x : Nat} {Q : tq_O → tq_S → Prop} {B28 : Int32 → tq_S → Prop} {a5 : Int32} {z : tq_S} (hB28 : ∀ (b5 : Int32) (z : tq_S), B28 b5 z → tq_T K 93 x mm_law 28 [.ref 902, .ref 0, .ref 51, .ref 87, .ref 88, .int b5, .null, .null, .null] [] z Q) (h : wc_law_1226 K B28 Q a5 z) : tq_T K 93 x mm_law 1226 [.ref 902, .ref 0, .ref 51, .ref 87, .ref 88, .int a5, .null, .null, .null] [] z Q := by
  unfold wc_law_1226 at h
  refine tq_s_goto (off := 1522) (tgt := 2748) (by decide +kernel) (by decide +kernel) ?_
  exact ac_law_2748 hB28 h
def wc_law_1161 (K : Nat × (Nat → Int32)) (B28 : Int32 → tq_S → Prop) (Q : tq_O → tq_S → Prop) (a5 : Int32) (z : tq_S) : Prop := vp_in (a5 + (1 : Int32)) K.1 ∧ vp_in (a5 + (2 : Int32)) K.1 ∧ wm_L_other (K.2 (Int32.toNatClampNeg (a5 + (1 : Int32)))) (K.2 (Int32.toNatClampNeg (a5 + (2 : Int32)))) z (tq_wi fun r102 z101 => vp_in (a5 + (1 : Int32)) K.1 ∧ vp_in (a5 + (2 : Int32)) K.1 ∧ wm_X12_other (K.2 (Int32.toNatClampNeg (a5 + (1 : Int32)))) (K.2 (Int32.toNatClampNeg (a5 + (2 : Int32)))) z101 (tq_wi fun r104 z103 => wm_X12_thrown z103 (tq_wi fun r106 z105 => ((r106 = r102 → ((¬ r102 = 0 → wc_law_1226 K B28 Q a5 z105) ∧ (r102 = 0 → (((tq_al z105 87 (Int32.toNatClampNeg (0 : Int32))) = (Int32.toInt64 r104) → wc_law_1226 K B28 Q a5 z105) ∧ (¬ (tq_al z105 87 (Int32.toNatClampNeg (0 : Int32))) = (Int32.toInt64 r104) → Q (.inl (some (.int (0 : Int32)))) z105))))) ∧ (¬ r106 = r102 → Q (.inl (some (.int (0 : Int32)))) z105)))))
theorem ac_law_1161 {K : Nat × (Nat → Int32)} {x : Nat} {Q : tq_O → tq_S → Prop} {B28 : Int32 → tq_S → Prop} {a5 : Int32} {z : tq_S} (hB28 : ∀ (b5 : Int32) (z : tq_S), B28 b5 z → tq_T K 93 x mm_law 28 [.ref 902, .ref 0, .ref 51, .ref 87, .ref 88, .int b5, .null, .null, .null] [] z Q) (h : wc_law_1161 K B28 Q a5 z) : tq_T K 93 (x + 1) mm_law 1161 [.ref 902, .ref 0, .ref 51, .ref 87, .ref 88, .int a5, .null, .null, .null] [] z Q := by
  unfold wc_law_1161 at h
  refine tq_s_aload_n (kk := 1) (by decide +kernel) rfl ?_
  refine tq_s_aload_n (kk := 0) (by decide +kernel) rfl ?_
  refine tq_s_iload (i := 5) (by decide +kernel) rfl ?_
  refine tq_k_ic (n := 1) (v := (1 : Int32)) (by decide +kernel) kc_1 ?_
  refine tq_s_iadd (by decide +kernel) ?_
  refine tq_s_caload (b := 902) (n := K.1) (f := K.2) (by decide +kernel) rfl h.1 ?_
  replace h := h.2
  refine tq_s_aload_n (kk := 0) (by decide +kernel) rfl ?_
  refine tq_s_iload (i := 5) (by decide +kernel) rfl ?_
  refine tq_k_ic (n := 2) (v := (2 : Int32)) (by decide +kernel) kc_2 ?_
  refine tq_s_iadd (by decide +kernel) ?_
  refine tq_s_caload (b := 902) (n := K.1) (f := K.2) (by decide +kernel) rfl h.1 ?_
  replace h := h.2
  refine tq_s_aload_n (kk := 3) (by decide +kernel) rfl ?_
  refine tq_callSH (as := [.ref 0, .int (K.2 (Int32.toNatClampNeg (a5 + (1 : Int32)))), .int (K.2 (Int32.toNatClampNeg (a5 + (2 : Int32)))), .ref 87]) (st := []) (d1 := 3) (x1 := 1) (x2 := x) (by decide +kernel) ln_13_222 mf_L_other rfl (by decide) np_L_other rfl (Nat.le_of_ble_eq_true rfl) (by decide) (Nat.add_comm _ _) (tq_M_mono (am_L_other (x := 0) h) ?_)
  refine tq_wi_e (fun r102 z101 h => ?_)
  refine tq_s_istore (i := 6) (L9 := [.ref 902, .ref 0, .ref 51, .ref 87, .ref 88, .int a5, .int r102, .null, .null]) (by decide +kernel) (by decide) rfl ?_
  refine tq_s_aload_n (kk := 2) (by decide +kernel) rfl ?_
  refine tq_s_aload_n (kk := 0) (by decide +kernel) rfl ?_
  refine tq_s_iload (i := 5) (by decide +kernel) rfl ?_
  refine tq_k_ic (n := 1) (v := (1 : Int32)) (by decide +kernel) kc_1 ?_
  refine tq_s_iadd (by decide +kernel) ?_
  refine tq_s_caload (b := 902) (n := K.1) (f := K.2) (by decide +kernel) rfl h.1 ?_
  replace h := h.2
  refine tq_s_aload_n (kk := 0) (by decide +kernel) rfl ?_
  refine tq_s_iload (i := 5) (by decide +kernel) rfl ?_
  refine tq_k_ic (n := 2) (v := (2 : Int32)) (by decide +kernel) kc_2 ?_
  refine tq_s_iadd (by decide +kernel) ?_
  refine tq_s_caload (b := 902) (n := K.1) (f := K.2) (by decide +kernel) rfl h.1 ?_
  replace h := h.2
  refine tq_callV (as := [.int (K.2 (Int32.toNatClampNeg (a5 + (1 : Int32)))), .int (K.2 (Int32.toNatClampNeg (a5 + (2 : Int32))))]) (st := []) (d1 := 2) (x1 := 0) (x2 := x) (by decide +kernel) ln_13_224 mf_X12_other rfl sh_51 rfl (by decide) np_X12_other rfl (Nat.le_of_ble_eq_true rfl) (by decide) (Nat.zero_add _).symm (tq_M_mono (am_X12_other h) ?_)
  refine tq_wi_e (fun r104 z103 h => ?_)
  refine tq_s_istore (i := 7) (L9 := [.ref 902, .ref 0, .ref 51, .ref 87, .ref 88, .int a5, .int r102, .int r104, .null]) (by decide +kernel) (by decide) rfl ?_
  refine tq_s_aload_n (kk := 2) (by decide +kernel) rfl ?_
  refine tq_callV (as := []) (st := []) (d1 := 0) (x1 := 0) (x2 := x) (by decide +kernel) ln_13_157 mf_X12_thrown rfl sh_51 rfl (by decide) np_X12_thrown rfl (Nat.le_of_ble_eq_true rfl) (by decide) (Nat.zero_add _).symm (tq_M_mono (am_X12_thrown h) ?_)
  refine tq_wi_e (fun r106 z105 h => ?_)
  refine tq_s_iload (i := 6) (by decide +kernel) rfl ?_
  refine tq_icmp_eq (off := 5) (tgt := 1209) (by decide +kernel) (by decide +kernel) (fun hc => ?_) (fun hc => ?_)
  · replace h := h.1 hc
    refine tq_s_iload (i := 6) (by decide +kernel) rfl ?_
    refine tq_if_ne (off := 15) (tgt := 1226) (by decide +kernel) (by decide +kernel) (fun hc => ?_) (fun hc => ?_)
    · replace h := h.1 hc
      exact tq_to (tq_lk1 (tq_lk1 (tq_lk1 (tq_lk1 (tq_lk1 (tq_lk1 (tq_ld1 (tq_ld1 (tq_lk1 tq_l0))))))))) (ac_law_1226 hB28 h)
    · replace h := h.2 hc
      refine tq_s_aload_n (kk := 3) (by decide +kernel) rfl ?_
      refine tq_k_ic (n := 0) (v := (0 : Int32)) (by decide +kernel) kc_0 ?_
      refine tq_s_lald (by decide +kernel) sh_87 vi_0_1 ?_
      refine tq_s_iload (i := 7) (by decide +kernel) rfl ?_
      refine tq_s_i2l (by decide +kernel) ?_
      refine tq_lcmp_eq (off := 5) (tgt := 1226) (by decide +kernel) (by decide +kernel) (by decide +kernel) (fun hc => ?_) (fun hc => ?_)
      · replace h := h.1 hc
        exact tq_to (tq_lk1 (tq_lk1 (tq_lk1 (tq_lk1 (tq_lk1 (tq_lk1 (tq_ld1 (tq_ld1 (tq_lk1 tq_l0))))))))) (ac_law_1226 hB28 h)
      · replace h := h.2 hc
        refine tq_k_ic (n := 0) (v := (0 : Int32)) (by decide +kernel) kc_0 ?_
        exact tq_ret_z (st := []) (ty := .boolean) (by decide +kernel) (by decide +kernel) rfl h
  · replace h := h.2 hc
    refine tq_k_ic (n := 0) (v := (0 : Int32)) (by decide +kernel) kc_0 ?_
    exact tq_ret_z (st := []) (ty := .boolean) (by decide +kernel) (by decide +kernel) rfl h
def wc_law_1158 (K : Nat × (Nat → Int32)) (B28 : Int32 → tq_S → Prop) (Q : tq_O → tq_S → Prop) (a5 : Int32) (z : tq_S) : Prop := wc_law_2748 K B28 Q a5 z
theorem ac_law_1158 {K : Nat × (Nat → Int32)} {x : Nat} {Q : tq_O → tq_S → Prop} {B28 : Int32 → tq_S → Prop} {a5 : Int32} {z : tq_S} (hB28 : ∀ (b5 : Int32) (z : tq_S), B28 b5 z → tq_T K 93 x mm_law 28 [.ref 902, .ref 0, .ref 51, .ref 87, .ref 88, .int b5, .null, .null, .null] [] z Q) (h : wc_law_1158 K B28 Q a5 z) : tq_T K 93 x mm_law 1158 [.ref 902, .ref 0, .ref 51, .ref 87, .ref 88, .int a5, .null, .null, .null] [] z Q := by
  unfold wc_law_1158 at h
  refine tq_s_goto (off := 1590) (tgt := 2748) (by decide +kernel) (by decide +kernel) ?_
  exact ac_law_2748 hB28 h
def wc_law_1117 (K : Nat × (Nat → Int32)) (B28 : Int32 → tq_S → Prop) (Q : tq_O → tq_S → Prop) (a5 : Int32) (z : tq_S) : Prop := wm_L_number z (tq_wi fun r102 z101 => wm_X12_number z101 (tq_wi fun r104 z103 => wm_X12_thrown z103 (tq_wi fun r106 z105 => ((r106 = r102 → ((¬ r102 = 0 → wc_law_1158 K B28 Q a5 z105) ∧ (r102 = 0 → (((tq_al z105 87 (Int32.toNatClampNeg (0 : Int32))) = (Int32.toInt64 r104) → wc_law_1158 K B28 Q a5 z105) ∧ (¬ (tq_al z105 87 (Int32.toNatClampNeg (0 : Int32))) = (Int32.toInt64 r104) → Q (.inl (some (.int (0 : Int32)))) z105))))) ∧ (¬ r106 = r102 → Q (.inl (some (.int (0 : Int32)))) z105)))))
theorem ac_law_1117 {K : Nat × (Nat → Int32)} {x : Nat} {Q : tq_O → tq_S → Prop} {B28 : Int32 → tq_S → Prop} {a5 : Int32} {z : tq_S} (hB28 : ∀ (b5 : Int32) (z : tq_S), B28 b5 z → tq_T K 93 x mm_law 28 [.ref 902, .ref 0, .ref 51, .ref 87, .ref 88, .int b5, .null, .null, .null] [] z Q) (h : wc_law_1117 K B28 Q a5 z) : tq_T K 93 (x + 1) mm_law 1117 [.ref 902, .ref 0, .ref 51, .ref 87, .ref 88, .int a5, .null, .null, .null] [] z Q := by
  unfold wc_law_1117 at h
  refine tq_s_aload_n (kk := 1) (by decide +kernel) rfl ?_
  refine tq_s_aload_n (kk := 3) (by decide +kernel) rfl ?_
  refine tq_callSH (as := [.ref 0, .ref 87]) (st := []) (d1 := 5) (x1 := 1) (x2 := x) (by decide +kernel) ln_13_219 mf_L_number rfl (by decide) np_L_number rfl (Nat.le_of_ble_eq_true rfl) (by decide) (Nat.add_comm _ _) (tq_M_mono (am_L_number (x := 0) h) ?_)
  refine tq_wi_e (fun r102 z101 h => ?_)
  refine tq_s_istore (i := 6) (L9 := [.ref 902, .ref 0, .ref 51, .ref 87, .ref 88, .int a5, .int r102, .null, .null]) (by decide +kernel) (by decide) rfl ?_
  refine tq_s_aload_n (kk := 2) (by decide +kernel) rfl ?_
  refine tq_callV (as := []) (st := []) (d1 := 43) (x1 := 0) (x2 := x) (by decide +kernel) ln_13_221 mf_X12_number rfl sh_51 rfl (by decide) np_X12_number rfl (Nat.le_of_ble_eq_true rfl) (by decide) (Nat.zero_add _).symm (tq_M_mono (am_X12_number h) ?_)
  refine tq_wi_e (fun r104 z103 h => ?_)
  refine tq_s_istore (i := 7) (L9 := [.ref 902, .ref 0, .ref 51, .ref 87, .ref 88, .int a5, .int r102, .int r104, .null]) (by decide +kernel) (by decide) rfl ?_
  refine tq_s_aload_n (kk := 2) (by decide +kernel) rfl ?_
  refine tq_callV (as := []) (st := []) (d1 := 0) (x1 := 0) (x2 := x) (by decide +kernel) ln_13_157 mf_X12_thrown rfl sh_51 rfl (by decide) np_X12_thrown rfl (Nat.le_of_ble_eq_true rfl) (by decide) (Nat.zero_add _).symm (tq_M_mono (am_X12_thrown h) ?_)
  refine tq_wi_e (fun r106 z105 h => ?_)
  refine tq_s_iload (i := 6) (by decide +kernel) rfl ?_
  refine tq_icmp_eq (off := 5) (tgt := 1141) (by decide +kernel) (by decide +kernel) (fun hc => ?_) (fun hc => ?_)
  · replace h := h.1 hc
    refine tq_s_iload (i := 6) (by decide +kernel) rfl ?_
    refine tq_if_ne (off := 15) (tgt := 1158) (by decide +kernel) (by decide +kernel) (fun hc => ?_) (fun hc => ?_)
    · replace h := h.1 hc
      exact tq_to (tq_lk1 (tq_lk1 (tq_lk1 (tq_lk1 (tq_lk1 (tq_lk1 (tq_ld1 (tq_ld1 (tq_lk1 tq_l0))))))))) (ac_law_1158 hB28 h)
    · replace h := h.2 hc
      refine tq_s_aload_n (kk := 3) (by decide +kernel) rfl ?_
      refine tq_k_ic (n := 0) (v := (0 : Int32)) (by decide +kernel) kc_0 ?_
      refine tq_s_lald (by decide +kernel) sh_87 vi_0_1 ?_
      refine tq_s_iload (i := 7) (by decide +kernel) rfl ?_
      refine tq_s_i2l (by decide +kernel) ?_
      refine tq_lcmp_eq (off := 5) (tgt := 1158) (by decide +kernel) (by decide +kernel) (by decide +kernel) (fun hc => ?_) (fun hc => ?_)
      · replace h := h.1 hc
        exact tq_to (tq_lk1 (tq_lk1 (tq_lk1 (tq_lk1 (tq_lk1 (tq_lk1 (tq_ld1 (tq_ld1 (tq_lk1 tq_l0))))))))) (ac_law_1158 hB28 h)
      · replace h := h.2 hc
        refine tq_k_ic (n := 0) (v := (0 : Int32)) (by decide +kernel) kc_0 ?_
        exact tq_ret_z (st := []) (ty := .boolean) (by decide +kernel) (by decide +kernel) rfl h
  · replace h := h.2 hc
    refine tq_k_ic (n := 0) (v := (0 : Int32)) (by decide +kernel) kc_0 ?_
    exact tq_ret_z (st := []) (ty := .boolean) (by decide +kernel) (by decide +kernel) rfl h
def wc_law_1114 (K : Nat × (Nat → Int32)) (B28 : Int32 → tq_S → Prop) (Q : tq_O → tq_S → Prop) (a5 : Int32) (z : tq_S) : Prop := wc_law_2748 K B28 Q a5 z
theorem ac_law_1114 {K : Nat × (Nat → Int32)} {x : Nat} {Q : tq_O → tq_S → Prop} {B28 : Int32 → tq_S → Prop} {a5 : Int32} {z : tq_S} (hB28 : ∀ (b5 : Int32) (z : tq_S), B28 b5 z → tq_T K 93 x mm_law 28 [.ref 902, .ref 0, .ref 51, .ref 87, .ref 88, .int b5, .null, .null, .null] [] z Q) (h : wc_law_1114 K B28 Q a5 z) : tq_T K 93 x mm_law 1114 [.ref 902, .ref 0, .ref 51, .ref 87, .ref 88, .int a5, .null, .null, .null] [] z Q := by
  unfold wc_law_1114 at h
  refine tq_s_goto (off := 1634) (tgt := 2748) (by decide +kernel) (by decide +kernel) ?_
  exact ac_law_2748 hB28 h
def wc_law_1108 (K : Nat × (Nat → Int32)) (B28 : Int32 → tq_S → Prop) (Q : tq_O → tq_S → Prop) (a5 : Int32) (s0 : Int64) (s1 : Int64) (z : tq_S) : Prop := ((s1 = s0 → wc_law_1114 K B28 Q a5 z) ∧ (¬ s1 = s0 → Q (.inl (some (.int (0 : Int32)))) z))
theorem ac_law_1108 {K : Nat × (Nat → Int32)} {x : Nat} {Q : tq_O → tq_S → Prop} {B28 : Int32 → tq_S → Prop} {a5 : Int32} {s0 : Int64} {s1 : Int64} {z : tq_S} (hB28 : ∀ (b5 : Int32) (z : tq_S), B28 b5 z → tq_T K 93 x mm_law 28 [.ref 902, .ref 0, .ref 51, .ref 87, .ref 88, .int b5, .null, .null, .null] [] z Q) (h : wc_law_1108 K B28 Q a5 s0 s1 z) : tq_T K 93 x mm_law 1108 [.ref 902, .ref 0, .ref 51, .ref 87, .ref 88, .int a5, .null, .null, .null] [.long s0, .long s1] z Q := by
  unfold wc_law_1108 at h
  refine tq_lcmp_eq (off := 5) (tgt := 1114) (by decide +kernel) (by decide +kernel) (by decide +kernel) (fun hc => ?_) (fun hc => ?_)
  · replace h := h.1 hc
    exact ac_law_1114 hB28 h
  · replace h := h.2 hc
    refine tq_k_ic (n := 0) (v := (0 : Int32)) (by decide +kernel) kc_0 ?_
    exact tq_ret_z (st := []) (ty := .boolean) (by decide +kernel) (by decide +kernel) rfl h
def wc_law_1066 (K : Nat × (Nat → Int32)) (B28 : Int32 → tq_S → Prop) (Q : tq_O → tq_S → Prop) (a5 : Int32) (z : tq_S) : Prop := wm_L_previous z (tq_wi fun r102 z101 => wm_X12_previous z101 (tq_wi fun r104 z103 => wm_X12_thrown z103 (tq_wi fun r106 z105 => ((r106 = r102 → ((¬ r102 = 0 → wc_law_1114 K B28 Q a5 z105) ∧ (r102 = 0 → ((r104 = 0 → wc_law_1108 K B28 Q a5 (0 : Int64) (tq_al z105 87 (Int32.toNatClampNeg (0 : Int32))) z105) ∧ (¬ r104 = 0 → wc_law_1108 K B28 Q a5 (1 : Int64) (tq_al z105 87 (Int32.toNatClampNeg (0 : Int32))) z105))))) ∧ (¬ r106 = r102 → Q (.inl (some (.int (0 : Int32)))) z105)))))
theorem ac_law_1066 {K : Nat × (Nat → Int32)} {x : Nat} {Q : tq_O → tq_S → Prop} {B28 : Int32 → tq_S → Prop} {a5 : Int32} {z : tq_S} (hB28 : ∀ (b5 : Int32) (z : tq_S), B28 b5 z → tq_T K 93 x mm_law 28 [.ref 902, .ref 0, .ref 51, .ref 87, .ref 88, .int b5, .null, .null, .null] [] z Q) (h : wc_law_1066 K B28 Q a5 z) : tq_T K 93 (x + 1) mm_law 1066 [.ref 902, .ref 0, .ref 51, .ref 87, .ref 88, .int a5, .null, .null, .null] [] z Q := by
  unfold wc_law_1066 at h
  refine tq_s_aload_n (kk := 1) (by decide +kernel) rfl ?_
  refine tq_s_aload_n (kk := 3) (by decide +kernel) rfl ?_
  refine tq_callSH (as := [.ref 0, .ref 87]) (st := []) (d1 := 6) (x1 := 1) (x2 := x) (by decide +kernel) ln_13_216 mf_L_previous rfl (by decide) np_L_previous rfl (Nat.le_of_ble_eq_true rfl) (by decide) (Nat.add_comm _ _) (tq_M_mono (am_L_previous (x := 0) h) ?_)
  refine tq_wi_e (fun r102 z101 h => ?_)
  refine tq_s_istore (i := 6) (L9 := [.ref 902, .ref 0, .ref 51, .ref 87, .ref 88, .int a5, .int r102, .null, .null]) (by decide +kernel) (by decide) rfl ?_
  refine tq_s_aload_n (kk := 2) (by decide +kernel) rfl ?_
  refine tq_callV (as := []) (st := []) (d1 := 43) (x1 := 0) (x2 := x) (by decide +kernel) ln_13_218 mf_X12_previous rfl sh_51 rfl (by decide) np_X12_previous rfl (Nat.le_of_ble_eq_true rfl) (by decide) (Nat.zero_add _).symm (tq_M_mono (am_X12_previous h) ?_)
  refine tq_wi_e (fun r104 z103 h => ?_)
  refine tq_s_istore (i := 7) (L9 := [.ref 902, .ref 0, .ref 51, .ref 87, .ref 88, .int a5, .int r102, .int r104, .null]) (by decide +kernel) (by decide) rfl ?_
  refine tq_s_aload_n (kk := 2) (by decide +kernel) rfl ?_
  refine tq_callV (as := []) (st := []) (d1 := 0) (x1 := 0) (x2 := x) (by decide +kernel) ln_13_157 mf_X12_thrown rfl sh_51 rfl (by decide) np_X12_thrown rfl (Nat.le_of_ble_eq_true rfl) (by decide) (Nat.zero_add _).symm (tq_M_mono (am_X12_thrown h) ?_)
  refine tq_wi_e (fun r106 z105 h => ?_)
  refine tq_s_iload (i := 6) (by decide +kernel) rfl ?_
  refine tq_icmp_eq (off := 5) (tgt := 1090) (by decide +kernel) (by decide +kernel) (fun hc => ?_) (fun hc => ?_)
  · replace h := h.1 hc
    refine tq_s_iload (i := 6) (by decide +kernel) rfl ?_
    refine tq_if_ne (off := 22) (tgt := 1114) (by decide +kernel) (by decide +kernel) (fun hc => ?_) (fun hc => ?_)
    · replace h := h.1 hc
      exact tq_to (tq_lk1 (tq_lk1 (tq_lk1 (tq_lk1 (tq_lk1 (tq_lk1 (tq_ld1 (tq_ld1 (tq_lk1 tq_l0))))))))) (ac_law_1114 hB28 h)
    · replace h := h.2 hc
      refine tq_s_aload_n (kk := 3) (by decide +kernel) rfl ?_
      refine tq_k_ic (n := 0) (v := (0 : Int32)) (by decide +kernel) kc_0 ?_
      refine tq_s_lald (by decide +kernel) sh_87 vi_0_1 ?_
      refine tq_s_iload (i := 7) (by decide +kernel) rfl ?_
      refine tq_if_eq (off := 7) (tgt := 1107) (by decide +kernel) (by decide +kernel) (fun hc => ?_) (fun hc => ?_)
      · replace h := h.1 hc
        refine tq_k_lc (n := 0) (v := (0 : Int64)) (by decide +kernel) (by decide +kernel) ?_
        exact tq_to (tq_lk1 (tq_lk1 (tq_lk1 (tq_lk1 (tq_lk1 (tq_lk1 (tq_ld1 (tq_ld1 (tq_lk1 tq_l0))))))))) (ac_law_1108 hB28 h)
      · replace h := h.2 hc
        refine tq_k_lc (n := 1) (v := (1 : Int64)) (by decide +kernel) (by decide +kernel) ?_
        refine tq_s_goto (off := 4) (tgt := 1108) (by decide +kernel) (by decide +kernel) ?_
        exact tq_to (tq_lk1 (tq_lk1 (tq_lk1 (tq_lk1 (tq_lk1 (tq_lk1 (tq_ld1 (tq_ld1 (tq_lk1 tq_l0))))))))) (ac_law_1108 hB28 h)
  · replace h := h.2 hc
    refine tq_k_ic (n := 0) (v := (0 : Int32)) (by decide +kernel) kc_0 ?_
    exact tq_ret_z (st := []) (ty := .boolean) (by decide +kernel) (by decide +kernel) rfl h
def wc_law_1063 (K : Nat × (Nat → Int32)) (B28 : Int32 → tq_S → Prop) (Q : tq_O → tq_S → Prop) (a5 : Int32) (z : tq_S) : Prop := wc_law_2748 K B28 Q a5 z
theorem ac_law_1063 {K : Nat × (Nat → Int32)} {x : Nat} {Q : tq_O → tq_S → Prop} {B28 : Int32 → tq_S → Prop} {a5 : Int32} {z : tq_S} (hB28 : ∀ (b5 : Int32) (z : tq_S), B28 b5 z → tq_T K 93 x mm_law 28 [.ref 902, .ref 0, .ref 51, .ref 87, .ref 88, .int b5, .null, .null, .null] [] z Q) (h : wc_law_1063 K B28 Q a5 z) : tq_T K 93 x mm_law 1063 [.ref 902, .ref 0, .ref 51, .ref 87, .ref 88, .int a5, .null, .null, .null] [] z Q := by
  unfold wc_law_1063 at h
  refine tq_s_goto (off := 1685) (tgt := 2748) (by decide +kernel) (by decide +kernel) ?_
  exact ac_law_2748 hB28 h
def wc_law_1057 (K : Nat × (Nat → Int32)) (B28 : Int32 → tq_S → Prop) (Q : tq_O → tq_S → Prop) (a5 : Int32) (s0 : Int64) (s1 : Int64) (z : tq_S) : Prop := ((s1 = s0 → wc_law_1063 K B28 Q a5 z) ∧ (¬ s1 = s0 → Q (.inl (some (.int (0 : Int32)))) z))
theorem ac_law_1057 {K : Nat × (Nat → Int32)} {x : Nat} {Q : tq_O → tq_S → Prop} {B28 : Int32 → tq_S → Prop} {a5 : Int32} {s0 : Int64} {s1 : Int64} {z : tq_S} (hB28 : ∀ (b5 : Int32) (z : tq_S), B28 b5 z → tq_T K 93 x mm_law 28 [.ref 902, .ref 0, .ref 51, .ref 87, .ref 88, .int b5, .null, .null, .null] [] z Q) (h : wc_law_1057 K B28 Q a5 s0 s1 z) : tq_T K 93 x mm_law 1057 [.ref 902, .ref 0, .ref 51, .ref 87, .ref 88, .int a5, .null, .null, .null] [.long s0, .long s1] z Q := by
  unfold wc_law_1057 at h
  refine tq_lcmp_eq (off := 5) (tgt := 1063) (by decide +kernel) (by decide +kernel) (by decide +kernel) (fun hc => ?_) (fun hc => ?_)
  · replace h := h.1 hc
    exact ac_law_1063 hB28 h
  · replace h := h.2 hc
    refine tq_k_ic (n := 0) (v := (0 : Int32)) (by decide +kernel) kc_0 ?_
    exact tq_ret_z (st := []) (ty := .boolean) (by decide +kernel) (by decide +kernel) rfl h
def wc_law_1015 (K : Nat × (Nat → Int32)) (B28 : Int32 → tq_S → Prop) (Q : tq_O → tq_S → Prop) (a5 : Int32) (z : tq_S) : Prop := wm_L_next z (tq_wi fun r102 z101 => wm_X12_next z101 (tq_wi fun r104 z103 => wm_X12_thrown z103 (tq_wi fun r106 z105 => ((r106 = r102 → ((¬ r102 = 0 → wc_law_1063 K B28 Q a5 z105) ∧ (r102 = 0 → ((r104 = 0 → wc_law_1057 K B28 Q a5 (0 : Int64) (tq_al z105 87 (Int32.toNatClampNeg (0 : Int32))) z105) ∧ (¬ r104 = 0 → wc_law_1057 K B28 Q a5 (1 : Int64) (tq_al z105 87 (Int32.toNatClampNeg (0 : Int32))) z105))))) ∧ (¬ r106 = r102 → Q (.inl (some (.int (0 : Int32)))) z105)))))
theorem ac_law_1015 {K : Nat × (Nat → Int32)} {x : Nat} {Q : tq_O → tq_S → Prop} {B28 : Int32 → tq_S → Prop} {a5 : Int32} {z : tq_S} (hB28 : ∀ (b5 : Int32) (z : tq_S), B28 b5 z → tq_T K 93 x mm_law 28 [.ref 902, .ref 0, .ref 51, .ref 87, .ref 88, .int b5, .null, .null, .null] [] z Q) (h : wc_law_1015 K B28 Q a5 z) : tq_T K 93 (x + 1) mm_law 1015 [.ref 902, .ref 0, .ref 51, .ref 87, .ref 88, .int a5, .null, .null, .null] [] z Q := by
  unfold wc_law_1015 at h
  refine tq_s_aload_n (kk := 1) (by decide +kernel) rfl ?_
  refine tq_s_aload_n (kk := 3) (by decide +kernel) rfl ?_
  refine tq_callSH (as := [.ref 0, .ref 87]) (st := []) (d1 := 6) (x1 := 1) (x2 := x) (by decide +kernel) ln_13_213 mf_L_next rfl (by decide) np_L_next rfl (Nat.le_of_ble_eq_true rfl) (by decide) (Nat.add_comm _ _) (tq_M_mono (am_L_next (x := 0) h) ?_)
  refine tq_wi_e (fun r102 z101 h => ?_)
  refine tq_s_istore (i := 6) (L9 := [.ref 902, .ref 0, .ref 51, .ref 87, .ref 88, .int a5, .int r102, .null, .null]) (by decide +kernel) (by decide) rfl ?_
  refine tq_s_aload_n (kk := 2) (by decide +kernel) rfl ?_
  refine tq_callV (as := []) (st := []) (d1 := 43) (x1 := 0) (x2 := x) (by decide +kernel) ln_13_215 mf_X12_next rfl sh_51 rfl (by decide) np_X12_next rfl (Nat.le_of_ble_eq_true rfl) (by decide) (Nat.zero_add _).symm (tq_M_mono (am_X12_next h) ?_)
  refine tq_wi_e (fun r104 z103 h => ?_)
  refine tq_s_istore (i := 7) (L9 := [.ref 902, .ref 0, .ref 51, .ref 87, .ref 88, .int a5, .int r102, .int r104, .null]) (by decide +kernel) (by decide) rfl ?_
  refine tq_s_aload_n (kk := 2) (by decide +kernel) rfl ?_
  refine tq_callV (as := []) (st := []) (d1 := 0) (x1 := 0) (x2 := x) (by decide +kernel) ln_13_157 mf_X12_thrown rfl sh_51 rfl (by decide) np_X12_thrown rfl (Nat.le_of_ble_eq_true rfl) (by decide) (Nat.zero_add _).symm (tq_M_mono (am_X12_thrown h) ?_)
  refine tq_wi_e (fun r106 z105 h => ?_)
  refine tq_s_iload (i := 6) (by decide +kernel) rfl ?_
  refine tq_icmp_eq (off := 5) (tgt := 1039) (by decide +kernel) (by decide +kernel) (fun hc => ?_) (fun hc => ?_)
  · replace h := h.1 hc
    refine tq_s_iload (i := 6) (by decide +kernel) rfl ?_
    refine tq_if_ne (off := 22) (tgt := 1063) (by decide +kernel) (by decide +kernel) (fun hc => ?_) (fun hc => ?_)
    · replace h := h.1 hc
      exact tq_to (tq_lk1 (tq_lk1 (tq_lk1 (tq_lk1 (tq_lk1 (tq_lk1 (tq_ld1 (tq_ld1 (tq_lk1 tq_l0))))))))) (ac_law_1063 hB28 h)
    · replace h := h.2 hc
      refine tq_s_aload_n (kk := 3) (by decide +kernel) rfl ?_
      refine tq_k_ic (n := 0) (v := (0 : Int32)) (by decide +kernel) kc_0 ?_
      refine tq_s_lald (by decide +kernel) sh_87 vi_0_1 ?_
      refine tq_s_iload (i := 7) (by decide +kernel) rfl ?_
      refine tq_if_eq (off := 7) (tgt := 1056) (by decide +kernel) (by decide +kernel) (fun hc => ?_) (fun hc => ?_)
      · replace h := h.1 hc
        refine tq_k_lc (n := 0) (v := (0 : Int64)) (by decide +kernel) (by decide +kernel) ?_
        exact tq_to (tq_lk1 (tq_lk1 (tq_lk1 (tq_lk1 (tq_lk1 (tq_lk1 (tq_ld1 (tq_ld1 (tq_lk1 tq_l0))))))))) (ac_law_1057 hB28 h)
      · replace h := h.2 hc
        refine tq_k_lc (n := 1) (v := (1 : Int64)) (by decide +kernel) (by decide +kernel) ?_
        refine tq_s_goto (off := 4) (tgt := 1057) (by decide +kernel) (by decide +kernel) ?_
        exact tq_to (tq_lk1 (tq_lk1 (tq_lk1 (tq_lk1 (tq_lk1 (tq_lk1 (tq_ld1 (tq_ld1 (tq_lk1 tq_l0))))))))) (ac_law_1057 hB28 h)
  · replace h := h.2 hc
    refine tq_k_ic (n := 0) (v := (0 : Int32)) (by decide +kernel) kc_0 ?_
    exact tq_ret_z (st := []) (ty := .boolean) (by decide +kernel) (by decide +kernel) rfl h
def wc_law_1012 (K : Nat × (Nat → Int32)) (B28 : Int32 → tq_S → Prop) (Q : tq_O → tq_S → Prop) (a5 : Int32) (z : tq_S) : Prop := wc_law_2748 K B28 Q a5 z
theorem ac_law_1012 {K : Nat × (Nat → Int32)} {x : Nat} {Q : tq_O → tq_S → Prop} {B28 : Int32 → tq_S → Prop} {a5 : Int32} {z : tq_S} (hB28 : ∀ (b5 : Int32) (z : tq_S), B28 b5 z → tq_T K 93 x mm_law 28 [.ref 902, .ref 0, .ref 51, .ref 87, .ref 88, .int b5, .null, .null, .null] [] z Q) (h : wc_law_1012 K B28 Q a5 z) : tq_T K 93 x mm_law 1012 [.ref 902, .ref 0, .ref 51, .ref 87, .ref 88, .int a5, .null, .null, .null] [] z Q := by
  unfold wc_law_1012 at h
  refine tq_s_goto (off := 1736) (tgt := 2748) (by decide +kernel) (by decide +kernel) ?_
  exact ac_law_2748 hB28 h
def wc_law_927 (K : Nat × (Nat → Int32)) (B28 : Int32 → tq_S → Prop) (Q : tq_O → tq_S → Prop) (a5 : Int32) (z : tq_S) : Prop := vp_in (a5 + (1 : Int32)) K.1 ∧ vp_in (a5 + (2 : Int32)) K.1 ∧ wm_L_draw (((Int32.toInt64 (K.2 (Int32.toNatClampNeg (a5 + (1 : Int32))))) <<< ((Int32.toInt64 (32 : Int32)) &&& 63)) ||| ((Int32.toInt64 (K.2 (Int32.toNatClampNeg (a5 + (2 : Int32))))) &&& (4294967295 : Int64))) z (tq_wi fun r102 z101 => vp_in (a5 + (1 : Int32)) K.1 ∧ vp_in (a5 + (2 : Int32)) K.1 ∧ wm_X12_draw (((Int32.toInt64 (K.2 (Int32.toNatClampNeg (a5 + (1 : Int32))))) <<< ((Int32.toInt64 (32 : Int32)) &&& 63)) ||| ((Int32.toInt64 (K.2 (Int32.toNatClampNeg (a5 + (2 : Int32))))) &&& (4294967295 : Int64))) z101 (tq_wi fun r104 z103 => wm_X12_thrown z103 (tq_wi fun r106 z105 => ((r106 = r102 → ((¬ r102 = 0 → wc_law_1012 K B28 Q a5 z105) ∧ (r102 = 0 → (((tq_al z105 87 (Int32.toNatClampNeg (0 : Int32))) = (Int32.toInt64 r104) → wc_law_1012 K B28 Q a5 z105) ∧ (¬ (tq_al z105 87 (Int32.toNatClampNeg (0 : Int32))) = (Int32.toInt64 r104) → Q (.inl (some (.int (0 : Int32)))) z105))))) ∧ (¬ r106 = r102 → Q (.inl (some (.int (0 : Int32)))) z105)))))
theorem ac_law_927 {K : Nat × (Nat → Int32)} {x : Nat} {Q : tq_O → tq_S → Prop} {B28 : Int32 → tq_S → Prop} {a5 : Int32} {z : tq_S} (hB28 : ∀ (b5 : Int32) (z : tq_S), B28 b5 z → tq_T K 93 x mm_law 28 [.ref 902, .ref 0, .ref 51, .ref 87, .ref 88, .int b5, .null, .null, .null] [] z Q) (h : wc_law_927 K B28 Q a5 z) : tq_T K 93 (x + 1) mm_law 927 [.ref 902, .ref 0, .ref 51, .ref 87, .ref 88, .int a5, .null, .null, .null] [] z Q := by
  unfold wc_law_927 at h
  refine tq_s_aload_n (kk := 1) (by decide +kernel) rfl ?_
  refine tq_s_aload_n (kk := 0) (by decide +kernel) rfl ?_
  refine tq_s_iload (i := 5) (by decide +kernel) rfl ?_
  refine tq_k_ic (n := 1) (v := (1 : Int32)) (by decide +kernel) kc_1 ?_
  refine tq_s_iadd (by decide +kernel) ?_
  refine tq_s_caload (b := 902) (n := K.1) (f := K.2) (by decide +kernel) rfl h.1 ?_
  replace h := h.2
  refine tq_s_i2l (by decide +kernel) ?_
  refine tq_k_bi (n := 32) (v := (32 : Int32)) (by decide +kernel) kb_32 ?_
  refine tq_s_lshl (by decide +kernel) ?_
  refine tq_s_aload_n (kk := 0) (by decide +kernel) rfl ?_
  refine tq_s_iload (i := 5) (by decide +kernel) rfl ?_
  refine tq_k_ic (n := 2) (v := (2 : Int32)) (by decide +kernel) kc_2 ?_
  refine tq_s_iadd (by decide +kernel) ?_
  refine tq_s_caload (b := 902) (n := K.1) (f := K.2) (by decide +kernel) rfl h.1 ?_
  replace h := h.2
  refine tq_s_i2l (by decide +kernel) ?_
  refine tq_s_ldc2 (i := 207) (v := (4294967295 : Int64)) (by decide +kernel) (by decide +kernel) ?_
  refine tq_s_land (by decide +kernel) ?_
  refine tq_s_lor (by decide +kernel) ?_
  refine tq_s_aload_n (kk := 3) (by decide +kernel) rfl ?_
  refine tq_callSH (as := [.ref 0, .long (((Int32.toInt64 (K.2 (Int32.toNatClampNeg (a5 + (1 : Int32))))) <<< ((Int32.toInt64 (32 : Int32)) &&& 63)) ||| ((Int32.toInt64 (K.2 (Int32.toNatClampNeg (a5 + (2 : Int32))))) &&& (4294967295 : Int64))), .ref 87]) (st := []) (d1 := 6) (x1 := 1) (x2 := x) (by decide +kernel) ln_13_209 mf_L_draw rfl (by decide) np_L_draw rfl (Nat.le_of_ble_eq_true rfl) (by decide) (Nat.add_comm _ _) (tq_M_mono (am_L_draw (x := 0) h) ?_)
  refine tq_wi_e (fun r102 z101 h => ?_)
  refine tq_s_istore (i := 6) (L9 := [.ref 902, .ref 0, .ref 51, .ref 87, .ref 88, .int a5, .int r102, .null, .null]) (by decide +kernel) (by decide) rfl ?_
  refine tq_s_aload_n (kk := 2) (by decide +kernel) rfl ?_
  refine tq_s_aload_n (kk := 0) (by decide +kernel) rfl ?_
  refine tq_s_iload (i := 5) (by decide +kernel) rfl ?_
  refine tq_k_ic (n := 1) (v := (1 : Int32)) (by decide +kernel) kc_1 ?_
  refine tq_s_iadd (by decide +kernel) ?_
  refine tq_s_caload (b := 902) (n := K.1) (f := K.2) (by decide +kernel) rfl h.1 ?_
  replace h := h.2
  refine tq_s_i2l (by decide +kernel) ?_
  refine tq_k_bi (n := 32) (v := (32 : Int32)) (by decide +kernel) kb_32 ?_
  refine tq_s_lshl (by decide +kernel) ?_
  refine tq_s_aload_n (kk := 0) (by decide +kernel) rfl ?_
  refine tq_s_iload (i := 5) (by decide +kernel) rfl ?_
  refine tq_k_ic (n := 2) (v := (2 : Int32)) (by decide +kernel) kc_2 ?_
  refine tq_s_iadd (by decide +kernel) ?_
  refine tq_s_caload (b := 902) (n := K.1) (f := K.2) (by decide +kernel) rfl h.1 ?_
  replace h := h.2
  refine tq_s_i2l (by decide +kernel) ?_
  refine tq_s_ldc2 (i := 207) (v := (4294967295 : Int64)) (by decide +kernel) (by decide +kernel) ?_
  refine tq_s_land (by decide +kernel) ?_
  refine tq_s_lor (by decide +kernel) ?_
  refine tq_callV (as := [.long (((Int32.toInt64 (K.2 (Int32.toNatClampNeg (a5 + (1 : Int32))))) <<< ((Int32.toInt64 (32 : Int32)) &&& 63)) ||| ((Int32.toInt64 (K.2 (Int32.toNatClampNeg (a5 + (2 : Int32))))) &&& (4294967295 : Int64)))]) (st := []) (d1 := 43) (x1 := 0) (x2 := x) (by decide +kernel) ln_13_212 mf_X12_draw rfl sh_51 rfl (by decide) np_X12_draw rfl (Nat.le_of_ble_eq_true rfl) (by decide) (Nat.zero_add _).symm (tq_M_mono (am_X12_draw h) ?_)
  refine tq_wi_e (fun r104 z103 h => ?_)
  refine tq_s_istore (i := 7) (L9 := [.ref 902, .ref 0, .ref 51, .ref 87, .ref 88, .int a5, .int r102, .int r104, .null]) (by decide +kernel) (by decide) rfl ?_
  refine tq_s_aload_n (kk := 2) (by decide +kernel) rfl ?_
  refine tq_callV (as := []) (st := []) (d1 := 0) (x1 := 0) (x2 := x) (by decide +kernel) ln_13_157 mf_X12_thrown rfl sh_51 rfl (by decide) np_X12_thrown rfl (Nat.le_of_ble_eq_true rfl) (by decide) (Nat.zero_add _).symm (tq_M_mono (am_X12_thrown h) ?_)
  refine tq_wi_e (fun r106 z105 h => ?_)
  refine tq_s_iload (i := 6) (by decide +kernel) rfl ?_
  refine tq_icmp_eq (off := 5) (tgt := 995) (by decide +kernel) (by decide +kernel) (fun hc => ?_) (fun hc => ?_)
  · replace h := h.1 hc
    refine tq_s_iload (i := 6) (by decide +kernel) rfl ?_
    refine tq_if_ne (off := 15) (tgt := 1012) (by decide +kernel) (by decide +kernel) (fun hc => ?_) (fun hc => ?_)
    · replace h := h.1 hc
      exact tq_to (tq_lk1 (tq_lk1 (tq_lk1 (tq_lk1 (tq_lk1 (tq_lk1 (tq_ld1 (tq_ld1 (tq_lk1 tq_l0))))))))) (ac_law_1012 hB28 h)
    · replace h := h.2 hc
      refine tq_s_aload_n (kk := 3) (by decide +kernel) rfl ?_
      refine tq_k_ic (n := 0) (v := (0 : Int32)) (by decide +kernel) kc_0 ?_
      refine tq_s_lald (by decide +kernel) sh_87 vi_0_1 ?_
      refine tq_s_iload (i := 7) (by decide +kernel) rfl ?_
      refine tq_s_i2l (by decide +kernel) ?_
      refine tq_lcmp_eq (off := 5) (tgt := 1012) (by decide +kernel) (by decide +kernel) (by decide +kernel) (fun hc => ?_) (fun hc => ?_)
      · replace h := h.1 hc
        exact tq_to (tq_lk1 (tq_lk1 (tq_lk1 (tq_lk1 (tq_lk1 (tq_lk1 (tq_ld1 (tq_ld1 (tq_lk1 tq_l0))))))))) (ac_law_1012 hB28 h)
      · replace h := h.2 hc
        refine tq_k_ic (n := 0) (v := (0 : Int32)) (by decide +kernel) kc_0 ?_
        exact tq_ret_z (st := []) (ty := .boolean) (by decide +kernel) (by decide +kernel) rfl h
  · replace h := h.2 hc
    refine tq_k_ic (n := 0) (v := (0 : Int32)) (by decide +kernel) kc_0 ?_
    exact tq_ret_z (st := []) (ty := .boolean) (by decide +kernel) (by decide +kernel) rfl h
def wc_law_924 (K : Nat × (Nat → Int32)) (B28 : Int32 → tq_S → Prop) (Q : tq_O → tq_S → Prop) (a5 : Int32) (z : tq_S) : Prop := wc_law_2748 K B28 Q a5 z
theorem ac_law_924 {K : Nat × (Nat → Int32)} {x : Nat} {Q : tq_O → tq_S → Prop} {B28 : Int32 → tq_S → Prop} {a5 : Int32} {z : tq_S} (hB28 : ∀ (b5 : Int32) (z : tq_S), B28 b5 z → tq_T K 93 x mm_law 28 [.ref 902, .ref 0, .ref 51, .ref 87, .ref 88, .int b5, .null, .null, .null] [] z Q) (h : wc_law_924 K B28 Q a5 z) : tq_T K 93 x mm_law 924 [.ref 902, .ref 0, .ref 51, .ref 87, .ref 88, .int a5, .null, .null, .null] [] z Q := by
  unfold wc_law_924 at h
  refine tq_s_goto (off := 1824) (tgt := 2748) (by decide +kernel) (by decide +kernel) ?_
  exact ac_law_2748 hB28 h
def wc_law_871 (K : Nat × (Nat → Int32)) (B28 : Int32 → tq_S → Prop) (Q : tq_O → tq_S → Prop) (a5 : Int32) (z : tq_S) : Prop := vp_in (a5 + (1 : Int32)) K.1 ∧ wm_L_signAt (K.2 (Int32.toNatClampNeg (a5 + (1 : Int32)))) z (tq_wi fun r102 z101 => vp_in (a5 + (1 : Int32)) K.1 ∧ wm_X12_signAt (K.2 (Int32.toNatClampNeg (a5 + (1 : Int32)))) z101 (tq_wi fun r104 z103 => wm_X12_thrown z103 (tq_wi fun r106 z105 => ((r106 = r102 → ((¬ r102 = 0 → wc_law_924 K B28 Q a5 z105) ∧ (r102 = 0 → (((tq_al z105 87 (Int32.toNatClampNeg (0 : Int32))) = (Int32.toInt64 r104) → wc_law_924 K B28 Q a5 z105) ∧ (¬ (tq_al z105 87 (Int32.toNatClampNeg (0 : Int32))) = (Int32.toInt64 r104) → Q (.inl (some (.int (0 : Int32)))) z105))))) ∧ (¬ r106 = r102 → Q (.inl (some (.int (0 : Int32)))) z105)))))
theorem ac_law_871 {K : Nat × (Nat → Int32)} {x : Nat} {Q : tq_O → tq_S → Prop} {B28 : Int32 → tq_S → Prop} {a5 : Int32} {z : tq_S} (hB28 : ∀ (b5 : Int32) (z : tq_S), B28 b5 z → tq_T K 93 x mm_law 28 [.ref 902, .ref 0, .ref 51, .ref 87, .ref 88, .int b5, .null, .null, .null] [] z Q) (h : wc_law_871 K B28 Q a5 z) : tq_T K 93 (x + 1) mm_law 871 [.ref 902, .ref 0, .ref 51, .ref 87, .ref 88, .int a5, .null, .null, .null] [] z Q := by
  unfold wc_law_871 at h
  refine tq_s_aload_n (kk := 1) (by decide +kernel) rfl ?_
  refine tq_s_aload_n (kk := 0) (by decide +kernel) rfl ?_
  refine tq_s_iload (i := 5) (by decide +kernel) rfl ?_
  refine tq_k_ic (n := 1) (v := (1 : Int32)) (by decide +kernel) kc_1 ?_
  refine tq_s_iadd (by decide +kernel) ?_
  refine tq_s_caload (b := 902) (n := K.1) (f := K.2) (by decide +kernel) rfl h.1 ?_
  replace h := h.2
  refine tq_s_aload_n (kk := 3) (by decide +kernel) rfl ?_
  refine tq_callSH (as := [.ref 0, .int (K.2 (Int32.toNatClampNeg (a5 + (1 : Int32)))), .ref 87]) (st := []) (d1 := 1) (x1 := 1) (x2 := x) (by decide +kernel) ln_13_203 mf_L_signAt rfl (by decide) np_L_signAt rfl (Nat.le_of_ble_eq_true rfl) (by decide) (Nat.add_comm _ _) (tq_M_mono (am_L_signAt (x := 0) h) ?_)
  refine tq_wi_e (fun r102 z101 h => ?_)
  refine tq_s_istore (i := 6) (L9 := [.ref 902, .ref 0, .ref 51, .ref 87, .ref 88, .int a5, .int r102, .null, .null]) (by decide +kernel) (by decide) rfl ?_
  refine tq_s_aload_n (kk := 2) (by decide +kernel) rfl ?_
  refine tq_s_aload_n (kk := 0) (by decide +kernel) rfl ?_
  refine tq_s_iload (i := 5) (by decide +kernel) rfl ?_
  refine tq_k_ic (n := 1) (v := (1 : Int32)) (by decide +kernel) kc_1 ?_
  refine tq_s_iadd (by decide +kernel) ?_
  refine tq_s_caload (b := 902) (n := K.1) (f := K.2) (by decide +kernel) rfl h.1 ?_
  replace h := h.2
  refine tq_callV (as := [.int (K.2 (Int32.toNatClampNeg (a5 + (1 : Int32))))]) (st := []) (d1 := 1) (x1 := 0) (x2 := x) (by decide +kernel) ln_13_206 mf_X12_signAt rfl sh_51 rfl (by decide) np_X12_signAt rfl (Nat.le_of_ble_eq_true rfl) (by decide) (Nat.zero_add _).symm (tq_M_mono (am_X12_signAt h) ?_)
  refine tq_wi_e (fun r104 z103 h => ?_)
  refine tq_s_istore (i := 7) (L9 := [.ref 902, .ref 0, .ref 51, .ref 87, .ref 88, .int a5, .int r102, .int r104, .null]) (by decide +kernel) (by decide) rfl ?_
  refine tq_s_aload_n (kk := 2) (by decide +kernel) rfl ?_
  refine tq_callV (as := []) (st := []) (d1 := 0) (x1 := 0) (x2 := x) (by decide +kernel) ln_13_157 mf_X12_thrown rfl sh_51 rfl (by decide) np_X12_thrown rfl (Nat.le_of_ble_eq_true rfl) (by decide) (Nat.zero_add _).symm (tq_M_mono (am_X12_thrown h) ?_)
  refine tq_wi_e (fun r106 z105 h => ?_)
  refine tq_s_iload (i := 6) (by decide +kernel) rfl ?_
  refine tq_icmp_eq (off := 5) (tgt := 907) (by decide +kernel) (by decide +kernel) (fun hc => ?_) (fun hc => ?_)
  · replace h := h.1 hc
    refine tq_s_iload (i := 6) (by decide +kernel) rfl ?_
    refine tq_if_ne (off := 15) (tgt := 924) (by decide +kernel) (by decide +kernel) (fun hc => ?_) (fun hc => ?_)
    · replace h := h.1 hc
      exact tq_to (tq_lk1 (tq_lk1 (tq_lk1 (tq_lk1 (tq_lk1 (tq_lk1 (tq_ld1 (tq_ld1 (tq_lk1 tq_l0))))))))) (ac_law_924 hB28 h)
    · replace h := h.2 hc
      refine tq_s_aload_n (kk := 3) (by decide +kernel) rfl ?_
      refine tq_k_ic (n := 0) (v := (0 : Int32)) (by decide +kernel) kc_0 ?_
      refine tq_s_lald (by decide +kernel) sh_87 vi_0_1 ?_
      refine tq_s_iload (i := 7) (by decide +kernel) rfl ?_
      refine tq_s_i2l (by decide +kernel) ?_
      refine tq_lcmp_eq (off := 5) (tgt := 924) (by decide +kernel) (by decide +kernel) (by decide +kernel) (fun hc => ?_) (fun hc => ?_)
      · replace h := h.1 hc
        exact tq_to (tq_lk1 (tq_lk1 (tq_lk1 (tq_lk1 (tq_lk1 (tq_lk1 (tq_ld1 (tq_ld1 (tq_lk1 tq_l0))))))))) (ac_law_924 hB28 h)
      · replace h := h.2 hc
        refine tq_k_ic (n := 0) (v := (0 : Int32)) (by decide +kernel) kc_0 ?_
        exact tq_ret_z (st := []) (ty := .boolean) (by decide +kernel) (by decide +kernel) rfl h
  · replace h := h.2 hc
    refine tq_k_ic (n := 0) (v := (0 : Int32)) (by decide +kernel) kc_0 ?_
    exact tq_ret_z (st := []) (ty := .boolean) (by decide +kernel) (by decide +kernel) rfl h
def wc_law_868 (K : Nat × (Nat → Int32)) (B28 : Int32 → tq_S → Prop) (Q : tq_O → tq_S → Prop) (a5 : Int32) (z : tq_S) : Prop := wc_law_2748 K B28 Q a5 z
theorem ac_law_868 {K : Nat × (Nat → Int32)} {x : Nat} {Q : tq_O → tq_S → Prop} {B28 : Int32 → tq_S → Prop} {a5 : Int32} {z : tq_S} (hB28 : ∀ (b5 : Int32) (z : tq_S), B28 b5 z → tq_T K 93 x mm_law 28 [.ref 902, .ref 0, .ref 51, .ref 87, .ref 88, .int b5, .null, .null, .null] [] z Q) (h : wc_law_868 K B28 Q a5 z) : tq_T K 93 x mm_law 868 [.ref 902, .ref 0, .ref 51, .ref 87, .ref 88, .int a5, .null, .null, .null] [] z Q := by
  unfold wc_law_868 at h
  refine tq_s_goto (off := 1880) (tgt := 2748) (by decide +kernel) (by decide +kernel) ?_
  exact ac_law_2748 hB28 h
def wc_law_835 (K : Nat × (Nat → Int32)) (B28 : Int32 → tq_S → Prop) (Q : tq_O → tq_S → Prop) (a5 : Int32) (a6 : Int32) (s0 : Int32) (s1 : Int32) (s2 : Int32) (z : tq_S) : Prop := wm_X12_having s2 s1 s0 z (tq_wi fun r102 z101 => wm_X12_thrown z101 (tq_wi fun r104 z103 => ((r104 = a6 → ((¬ a6 = 0 → wc_law_868 K B28 Q a5 z103) ∧ (a6 = 0 → (((tq_al z103 87 (Int32.toNatClampNeg (0 : Int32))) = (Int32.toInt64 r102) → wc_law_868 K B28 Q a5 z103) ∧ (¬ (tq_al z103 87 (Int32.toNatClampNeg (0 : Int32))) = (Int32.toInt64 r102) → Q (.inl (some (.int (0 : Int32)))) z103))))) ∧ (¬ r104 = a6 → Q (.inl (some (.int (0 : Int32)))) z103))))
theorem ac_law_835 {K : Nat × (Nat → Int32)} {x : Nat} {Q : tq_O → tq_S → Prop} {B28 : Int32 → tq_S → Prop} {a5 : Int32} {a6 : Int32} {s0 : Int32} {s1 : Int32} {s2 : Int32} {z : tq_S} (hB28 : ∀ (b5 : Int32) (z : tq_S), B28 b5 z → tq_T K 93 x mm_law 28 [.ref 902, .ref 0, .ref 51, .ref 87, .ref 88, .int b5, .null, .null, .null] [] z Q) (h : wc_law_835 K B28 Q a5 a6 s0 s1 s2 z) : tq_T K 93 x mm_law 835 [.ref 902, .ref 0, .ref 51, .ref 87, .ref 88, .int a5, .int a6, .null, .null] [.int s0, .int s1, .int s2, .ref 51] z Q := by
  unfold wc_law_835 at h
  refine tq_callV (as := [.int s2, .int s1, .int s0]) (st := []) (d1 := 43) (x1 := 0) (x2 := x) (by decide +kernel) ln_13_202 mf_X12_having rfl sh_51 rfl (by decide) np_X12_having rfl (Nat.le_of_ble_eq_true rfl) (by decide) (Nat.zero_add _).symm (tq_M_mono (am_X12_having h) ?_)
  refine tq_wi_e (fun r102 z101 h => ?_)
  refine tq_s_istore (i := 7) (L9 := [.ref 902, .ref 0, .ref 51, .ref 87, .ref 88, .int a5, .int a6, .int r102, .null]) (by decide +kernel) (by decide) rfl ?_
  refine tq_s_aload_n (kk := 2) (by decide +kernel) rfl ?_
  refine tq_callV (as := []) (st := []) (d1 := 0) (x1 := 0) (x2 := x) (by decide +kernel) ln_13_157 mf_X12_thrown rfl sh_51 rfl (by decide) np_X12_thrown rfl (Nat.le_of_ble_eq_true rfl) (by decide) (Nat.zero_add _).symm (tq_M_mono (am_X12_thrown h) ?_)
  refine tq_wi_e (fun r104 z103 h => ?_)
  refine tq_s_iload (i := 6) (by decide +kernel) rfl ?_
  refine tq_icmp_eq (off := 5) (tgt := 851) (by decide +kernel) (by decide +kernel) (fun hc => ?_) (fun hc => ?_)
  · replace h := h.1 hc
    refine tq_s_iload (i := 6) (by decide +kernel) rfl ?_
    refine tq_if_ne (off := 15) (tgt := 868) (by decide +kernel) (by decide +kernel) (fun hc => ?_) (fun hc => ?_)
    · replace h := h.1 hc
      exact tq_to (tq_lk1 (tq_lk1 (tq_lk1 (tq_lk1 (tq_lk1 (tq_lk1 (tq_ld1 (tq_ld1 (tq_lk1 tq_l0))))))))) (ac_law_868 hB28 h)
    · replace h := h.2 hc
      refine tq_s_aload_n (kk := 3) (by decide +kernel) rfl ?_
      refine tq_k_ic (n := 0) (v := (0 : Int32)) (by decide +kernel) kc_0 ?_
      refine tq_s_lald (by decide +kernel) sh_87 vi_0_1 ?_
      refine tq_s_iload (i := 7) (by decide +kernel) rfl ?_
      refine tq_s_i2l (by decide +kernel) ?_
      refine tq_lcmp_eq (off := 5) (tgt := 868) (by decide +kernel) (by decide +kernel) (by decide +kernel) (fun hc => ?_) (fun hc => ?_)
      · replace h := h.1 hc
        exact tq_to (tq_lk1 (tq_lk1 (tq_lk1 (tq_lk1 (tq_lk1 (tq_lk1 (tq_ld1 (tq_ld1 (tq_lk1 tq_l0))))))))) (ac_law_868 hB28 h)
      · replace h := h.2 hc
        refine tq_k_ic (n := 0) (v := (0 : Int32)) (by decide +kernel) kc_0 ?_
        exact tq_ret_z (st := []) (ty := .boolean) (by decide +kernel) (by decide +kernel) rfl h
  · replace h := h.2 hc
    refine tq_k_ic (n := 0) (v := (0 : Int32)) (by decide +kernel) kc_0 ?_
    exact tq_ret_z (st := []) (ty := .boolean) (by decide +kernel) (by decide +kernel) rfl h
def wc_law_802 (K : Nat × (Nat → Int32)) (B28 : Int32 → tq_S → Prop) (Q : tq_O → tq_S → Prop) (a5 : Int32) (s0 : Int32) (s1 : Int32) (s2 : Int32) (z : tq_S) : Prop := wm_L_having s2 s1 s0 z (tq_wi fun r102 z101 => vp_in (a5 + (1 : Int32)) K.1 ∧ vp_in (a5 + (2 : Int32)) K.1 ∧ vp_in (a5 + (3 : Int32)) K.1 ∧ (((K.2 (Int32.toNatClampNeg (a5 + (3 : Int32)))) = 0 → wc_law_835 K B28 Q a5 r102 (0 : Int32) (K.2 (Int32.toNatClampNeg (a5 + (2 : Int32)))) (K.2 (Int32.toNatClampNeg (a5 + (1 : Int32)))) z101) ∧ (¬ (K.2 (Int32.toNatClampNeg (a5 + (3 : Int32)))) = 0 → wc_law_835 K B28 Q a5 r102 (1 : Int32) (K.2 (Int32.toNatClampNeg (a5 + (2 : Int32)))) (K.2 (Int32.toNatClampNeg (a5 + (1 : Int32)))) z101)))
theorem ac_law_802 {K : Nat × (Nat → Int32)} {x : Nat} {Q : tq_O → tq_S → Prop} {B28 : Int32 → tq_S → Prop} {a5 : Int32} {s0 : Int32} {s1 : Int32} {s2 : Int32} {z : tq_S} (hB28 : ∀ (b5 : Int32) (z : tq_S), B28 b5 z → tq_T K 93 x mm_law 28 [.ref 902, .ref 0, .ref 51, .ref 87, .ref 88, .int b5, .null, .null, .null] [] z Q) (h : wc_law_802 K B28 Q a5 s0 s1 s2 z) : tq_T K 93 (x + 1) mm_law 802 [.ref 902, .ref 0, .ref 51, .ref 87, .ref 88, .int a5, .null, .null, .null] [.int s0, .int s1, .int s2, .ref 0] z Q := by
  unfold wc_law_802 at h
  refine tq_s_aload_n (kk := 3) (by decide +kernel) rfl ?_
  refine tq_callSH (as := [.ref 0, .int s2, .int s1, .int s0, .ref 87]) (st := []) (d1 := 6) (x1 := 1) (x2 := x) (by decide +kernel) ln_13_199 mf_L_having rfl (by decide) np_L_having rfl (Nat.le_of_ble_eq_true rfl) (by decide) (Nat.add_comm _ _) (tq_M_mono (am_L_having (x := 0) h) ?_)
  refine tq_wi_e (fun r102 z101 h => ?_)
  refine tq_s_istore (i := 6) (L9 := [.ref 902, .ref 0, .ref 51, .ref 87, .ref 88, .int a5, .int r102, .null, .null]) (by decide +kernel) (by decide) rfl ?_
  refine tq_s_aload_n (kk := 2) (by decide +kernel) rfl ?_
  refine tq_s_aload_n (kk := 0) (by decide +kernel) rfl ?_
  refine tq_s_iload (i := 5) (by decide +kernel) rfl ?_
  refine tq_k_ic (n := 1) (v := (1 : Int32)) (by decide +kernel) kc_1 ?_
  refine tq_s_iadd (by decide +kernel) ?_
  refine tq_s_caload (b := 902) (n := K.1) (f := K.2) (by decide +kernel) rfl h.1 ?_
  replace h := h.2
  refine tq_s_aload_n (kk := 0) (by decide +kernel) rfl ?_
  refine tq_s_iload (i := 5) (by decide +kernel) rfl ?_
  refine tq_k_ic (n := 2) (v := (2 : Int32)) (by decide +kernel) kc_2 ?_
  refine tq_s_iadd (by decide +kernel) ?_
  refine tq_s_caload (b := 902) (n := K.1) (f := K.2) (by decide +kernel) rfl h.1 ?_
  replace h := h.2
  refine tq_s_aload_n (kk := 0) (by decide +kernel) rfl ?_
  refine tq_s_iload (i := 5) (by decide +kernel) rfl ?_
  refine tq_k_ic (n := 3) (v := (3 : Int32)) (by decide +kernel) kc_3 ?_
  refine tq_s_iadd (by decide +kernel) ?_
  refine tq_s_caload (b := 902) (n := K.1) (f := K.2) (by decide +kernel) rfl h.1 ?_
  replace h := h.2
  refine tq_if_eq (off := 7) (tgt := 834) (by decide +kernel) (by decide +kernel) (fun hc => ?_) (fun hc => ?_)
  · replace h := h.1 hc
    refine tq_k_ic (n := 0) (v := (0 : Int32)) (by decide +kernel) kc_0 ?_
    exact ac_law_835 hB28 h
  · replace h := h.2 hc
    refine tq_k_ic (n := 1) (v := (1 : Int32)) (by decide +kernel) kc_1 ?_
    refine tq_s_goto (off := 4) (tgt := 835) (by decide +kernel) (by decide +kernel) ?_
    exact ac_law_835 hB28 h
def wc_law_775 (K : Nat × (Nat → Int32)) (B28 : Int32 → tq_S → Prop) (Q : tq_O → tq_S → Prop) (a5 : Int32) (z : tq_S) : Prop := vp_in (a5 + (1 : Int32)) K.1 ∧ vp_in (a5 + (2 : Int32)) K.1 ∧ vp_in (a5 + (3 : Int32)) K.1 ∧ (((K.2 (Int32.toNatClampNeg (a5 + (3 : Int32)))) = 0 → wc_law_802 K B28 Q a5 (0 : Int32) (K.2 (Int32.toNatClampNeg (a5 + (2 : Int32)))) (K.2 (Int32.toNatClampNeg (a5 + (1 : Int32)))) z) ∧ (¬ (K.2 (Int32.toNatClampNeg (a5 + (3 : Int32)))) = 0 → wc_law_802 K B28 Q a5 (1 : Int32) (K.2 (Int32.toNatClampNeg (a5 + (2 : Int32)))) (K.2 (Int32.toNatClampNeg (a5 + (1 : Int32)))) z))
theorem ac_law_775 {K : Nat × (Nat → Int32)} {x : Nat} {Q : tq_O → tq_S → Prop} {B28 : Int32 → tq_S → Prop} {a5 : Int32} {z : tq_S} (hB28 : ∀ (b5 : Int32) (z : tq_S), B28 b5 z → tq_T K 93 x mm_law 28 [.ref 902, .ref 0, .ref 51, .ref 87, .ref 88, .int b5, .null, .null, .null] [] z Q) (h : wc_law_775 K B28 Q a5 z) : tq_T K 93 (x + 1) mm_law 775 [.ref 902, .ref 0, .ref 51, .ref 87, .ref 88, .int a5, .null, .null, .null] [] z Q := by
  unfold wc_law_775 at h
  refine tq_s_aload_n (kk := 1) (by decide +kernel) rfl ?_
  refine tq_s_aload_n (kk := 0) (by decide +kernel) rfl ?_
  refine tq_s_iload (i := 5) (by decide +kernel) rfl ?_
  refine tq_k_ic (n := 1) (v := (1 : Int32)) (by decide +kernel) kc_1 ?_
  refine tq_s_iadd (by decide +kernel) ?_
  refine tq_s_caload (b := 902) (n := K.1) (f := K.2) (by decide +kernel) rfl h.1 ?_
  replace h := h.2
  refine tq_s_aload_n (kk := 0) (by decide +kernel) rfl ?_
  refine tq_s_iload (i := 5) (by decide +kernel) rfl ?_
  refine tq_k_ic (n := 2) (v := (2 : Int32)) (by decide +kernel) kc_2 ?_
  refine tq_s_iadd (by decide +kernel) ?_
  refine tq_s_caload (b := 902) (n := K.1) (f := K.2) (by decide +kernel) rfl h.1 ?_
  replace h := h.2
  refine tq_s_aload_n (kk := 0) (by decide +kernel) rfl ?_
  refine tq_s_iload (i := 5) (by decide +kernel) rfl ?_
  refine tq_k_ic (n := 3) (v := (3 : Int32)) (by decide +kernel) kc_3 ?_
  refine tq_s_iadd (by decide +kernel) ?_
  refine tq_s_caload (b := 902) (n := K.1) (f := K.2) (by decide +kernel) rfl h.1 ?_
  replace h := h.2
  refine tq_if_eq (off := 7) (tgt := 801) (by decide +kernel) (by decide +kernel) (fun hc => ?_) (fun hc => ?_)
  · replace h := h.1 hc
    refine tq_k_ic (n := 0) (v := (0 : Int32)) (by decide +kernel) kc_0 ?_
    exact ac_law_802 hB28 h
  · replace h := h.2 hc
    refine tq_k_ic (n := 1) (v := (1 : Int32)) (by decide +kernel) kc_1 ?_
    refine tq_s_goto (off := 4) (tgt := 802) (by decide +kernel) (by decide +kernel) ?_
    exact ac_law_802 hB28 h
def wc_law_772 (K : Nat × (Nat → Int32)) (B28 : Int32 → tq_S → Prop) (Q : tq_O → tq_S → Prop) (a5 : Int32) (z : tq_S) : Prop := wc_law_2748 K B28 Q a5 z
theorem ac_law_772 {K : Nat × (Nat → Int32)} {x : Nat} {Q : tq_O → tq_S → Prop} {B28 : Int32 → tq_S → Prop} {a5 : Int32} {z : tq_S} (hB28 : ∀ (b5 : Int32) (z : tq_S), B28 b5 z → tq_T K 93 x mm_law 28 [.ref 902, .ref 0, .ref 51, .ref 87, .ref 88, .int b5, .null, .null, .null] [] z Q) (h : wc_law_772 K B28 Q a5 z) : tq_T K 93 x mm_law 772 [.ref 902, .ref 0, .ref 51, .ref 87, .ref 88, .int a5, .null, .null, .null] [] z Q := by
  unfold wc_law_772 at h
  refine tq_s_goto (off := 1976) (tgt := 2748) (by decide +kernel) (by decide +kernel) ?_
  exact ac_law_2748 hB28 h
def wc_law_731 (K : Nat × (Nat → Int32)) (B28 : Int32 → tq_S → Prop) (Q : tq_O → tq_S → Prop) (a5 : Int32) (z : tq_S) : Prop := wm_L_bySigns z (tq_wi fun r102 z101 => wm_X12_bySigns z101 (tq_wi fun r104 z103 => wm_X12_thrown z103 (tq_wi fun r106 z105 => ((r106 = r102 → ((¬ r102 = 0 → wc_law_772 K B28 Q a5 z105) ∧ (r102 = 0 → (((tq_al z105 87 (Int32.toNatClampNeg (0 : Int32))) = (Int32.toInt64 r104) → wc_law_772 K B28 Q a5 z105) ∧ (¬ (tq_al z105 87 (Int32.toNatClampNeg (0 : Int32))) = (Int32.toInt64 r104) → Q (.inl (some (.int (0 : Int32)))) z105))))) ∧ (¬ r106 = r102 → Q (.inl (some (.int (0 : Int32)))) z105)))))
theorem ac_law_731 {K : Nat × (Nat → Int32)} {x : Nat} {Q : tq_O → tq_S → Prop} {B28 : Int32 → tq_S → Prop} {a5 : Int32} {z : tq_S} (hB28 : ∀ (b5 : Int32) (z : tq_S), B28 b5 z → tq_T K 93 x mm_law 28 [.ref 902, .ref 0, .ref 51, .ref 87, .ref 88, .int b5, .null, .null, .null] [] z Q) (h : wc_law_731 K B28 Q a5 z) : tq_T K 93 (x + 1) mm_law 731 [.ref 902, .ref 0, .ref 51, .ref 87, .ref 88, .int a5, .null, .null, .null] [] z Q := by
  unfold wc_law_731 at h
  refine tq_s_aload_n (kk := 1) (by decide +kernel) rfl ?_
  refine tq_s_aload_n (kk := 3) (by decide +kernel) rfl ?_
  refine tq_callSH (as := [.ref 0, .ref 87]) (st := []) (d1 := 6) (x1 := 1) (x2 := x) (by decide +kernel) ln_13_195 mf_L_bySigns rfl (by decide) np_L_bySigns rfl (Nat.le_of_ble_eq_true rfl) (by decide) (Nat.add_comm _ _) (tq_M_mono (am_L_bySigns (x := 0) h) ?_)
  refine tq_wi_e (fun r102 z101 h => ?_)
  refine tq_s_istore (i := 6) (L9 := [.ref 902, .ref 0, .ref 51, .ref 87, .ref 88, .int a5, .int r102, .null, .null]) (by decide +kernel) (by decide) rfl ?_
  refine tq_s_aload_n (kk := 2) (by decide +kernel) rfl ?_
  refine tq_callV (as := []) (st := []) (d1 := 43) (x1 := 0) (x2 := x) (by decide +kernel) ln_13_198 mf_X12_bySigns rfl sh_51 rfl (by decide) np_X12_bySigns rfl (Nat.le_of_ble_eq_true rfl) (by decide) (Nat.zero_add _).symm (tq_M_mono (am_X12_bySigns h) ?_)
  refine tq_wi_e (fun r104 z103 h => ?_)
  refine tq_s_istore (i := 7) (L9 := [.ref 902, .ref 0, .ref 51, .ref 87, .ref 88, .int a5, .int r102, .int r104, .null]) (by decide +kernel) (by decide) rfl ?_
  refine tq_s_aload_n (kk := 2) (by decide +kernel) rfl ?_
  refine tq_callV (as := []) (st := []) (d1 := 0) (x1 := 0) (x2 := x) (by decide +kernel) ln_13_157 mf_X12_thrown rfl sh_51 rfl (by decide) np_X12_thrown rfl (Nat.le_of_ble_eq_true rfl) (by decide) (Nat.zero_add _).symm (tq_M_mono (am_X12_thrown h) ?_)
  refine tq_wi_e (fun r106 z105 h => ?_)
  refine tq_s_iload (i := 6) (by decide +kernel) rfl ?_
  refine tq_icmp_eq (off := 5) (tgt := 755) (by decide +kernel) (by decide +kernel) (fun hc => ?_) (fun hc => ?_)
  · replace h := h.1 hc
    refine tq_s_iload (i := 6) (by decide +kernel) rfl ?_
    refine tq_if_ne (off := 15) (tgt := 772) (by decide +kernel) (by decide +kernel) (fun hc => ?_) (fun hc => ?_)
    · replace h := h.1 hc
      exact tq_to (tq_lk1 (tq_lk1 (tq_lk1 (tq_lk1 (tq_lk1 (tq_lk1 (tq_ld1 (tq_ld1 (tq_lk1 tq_l0))))))))) (ac_law_772 hB28 h)
    · replace h := h.2 hc
      refine tq_s_aload_n (kk := 3) (by decide +kernel) rfl ?_
      refine tq_k_ic (n := 0) (v := (0 : Int32)) (by decide +kernel) kc_0 ?_
      refine tq_s_lald (by decide +kernel) sh_87 vi_0_1 ?_
      refine tq_s_iload (i := 7) (by decide +kernel) rfl ?_
      refine tq_s_i2l (by decide +kernel) ?_
      refine tq_lcmp_eq (off := 5) (tgt := 772) (by decide +kernel) (by decide +kernel) (by decide +kernel) (fun hc => ?_) (fun hc => ?_)
      · replace h := h.1 hc
        exact tq_to (tq_lk1 (tq_lk1 (tq_lk1 (tq_lk1 (tq_lk1 (tq_lk1 (tq_ld1 (tq_ld1 (tq_lk1 tq_l0))))))))) (ac_law_772 hB28 h)
      · replace h := h.2 hc
        refine tq_k_ic (n := 0) (v := (0 : Int32)) (by decide +kernel) kc_0 ?_
        exact tq_ret_z (st := []) (ty := .boolean) (by decide +kernel) (by decide +kernel) rfl h
  · replace h := h.2 hc
    refine tq_k_ic (n := 0) (v := (0 : Int32)) (by decide +kernel) kc_0 ?_
    exact tq_ret_z (st := []) (ty := .boolean) (by decide +kernel) (by decide +kernel) rfl h
def wc_law_718 (K : Nat × (Nat → Int32)) (B28 : Int32 → tq_S → Prop) (Q : tq_O → tq_S → Prop) (a5 : Int32) (z : tq_S) : Prop := wm_X11_covers z (tq_wi fun r102 z101 => wm_X12_covers z101 (tq_wi fun r104 z103 => ((r102 = r104 → wc_law_2748 K B28 Q a5 z103) ∧ (¬ r102 = r104 → Q (.inl (some (.int (0 : Int32)))) z103))))
theorem ac_law_718 {K : Nat × (Nat → Int32)} {x : Nat} {Q : tq_O → tq_S → Prop} {B28 : Int32 → tq_S → Prop} {a5 : Int32} {z : tq_S} (hB28 : ∀ (b5 : Int32) (z : tq_S), B28 b5 z → tq_T K 93 x mm_law 28 [.ref 902, .ref 0, .ref 51, .ref 87, .ref 88, .int b5, .null, .null, .null] [] z Q) (h : wc_law_718 K B28 Q a5 z) : tq_T K 93 (x + 1) mm_law 718 [.ref 902, .ref 0, .ref 51, .ref 87, .ref 88, .int a5, .null, .null, .null] [] z Q := by
  unfold wc_law_718 at h
  refine tq_s_aload_n (kk := 1) (by decide +kernel) rfl ?_
  refine tq_callV (as := []) (st := []) (d1 := 4) (x1 := 0) (x2 := (x + 1)) (by decide +kernel) ln_13_191 mf_X11_covers rfl sh_0 rfl (by decide) np_X11_covers rfl (Nat.le_of_ble_eq_true rfl) (by decide) (Nat.zero_add _).symm (tq_M_mono (am_X11_covers h) ?_)
  refine tq_wi_e (fun r102 z101 h => ?_)
  refine tq_s_aload_n (kk := 2) (by decide +kernel) rfl ?_
  refine tq_callV (as := []) (st := [.int r102]) (d1 := 43) (x1 := 0) (x2 := (x + 1)) (by decide +kernel) ln_13_194 mf_X12_covers rfl sh_51 rfl (by decide) np_X12_covers rfl (Nat.le_of_ble_eq_true rfl) (by decide) (Nat.zero_add _).symm (tq_M_mono (am_X12_covers h) ?_)
  refine tq_wi_e (fun r104 z103 h => ?_)
  refine tq_icmp_eq (off := 2022) (tgt := 2748) (by decide +kernel) (by decide +kernel) (fun hc => ?_) (fun hc => ?_)
  · replace h := h.1 hc
    exact tq_Tx (ac_law_2748 hB28 h)
  · replace h := h.2 hc
    refine tq_k_ic (n := 0) (v := (0 : Int32)) (by decide +kernel) kc_0 ?_
    exact tq_ret_z (st := []) (ty := .boolean) (by decide +kernel) (by decide +kernel) rfl h
def wc_law_705 (K : Nat × (Nat → Int32)) (B28 : Int32 → tq_S → Prop) (Q : tq_O → tq_S → Prop) (a5 : Int32) (z : tq_S) : Prop := wm_X11_holes z (tq_wi fun r102 z101 => wm_X12_holes z101 (tq_wi fun r104 z103 => ((r102 = r104 → wc_law_2748 K B28 Q a5 z103) ∧ (¬ r102 = r104 → Q (.inl (some (.int (0 : Int32)))) z103))))
theorem ac_law_705 {K : Nat × (Nat → Int32)} {x : Nat} {Q : tq_O → tq_S → Prop} {B28 : Int32 → tq_S → Prop} {a5 : Int32} {z : tq_S} (hB28 : ∀ (b5 : Int32) (z : tq_S), B28 b5 z → tq_T K 93 x mm_law 28 [.ref 902, .ref 0, .ref 51, .ref 87, .ref 88, .int b5, .null, .null, .null] [] z Q) (h : wc_law_705 K B28 Q a5 z) : tq_T K 93 (x + 1) mm_law 705 [.ref 902, .ref 0, .ref 51, .ref 87, .ref 88, .int a5, .null, .null, .null] [] z Q := by
  unfold wc_law_705 at h
  refine tq_s_aload_n (kk := 1) (by decide +kernel) rfl ?_
  refine tq_callV (as := []) (st := []) (d1 := 4) (x1 := 0) (x2 := (x + 1)) (by decide +kernel) ln_13_187 mf_X11_holes rfl sh_0 rfl (by decide) np_X11_holes rfl (Nat.le_of_ble_eq_true rfl) (by decide) (Nat.zero_add _).symm (tq_M_mono (am_X11_holes h) ?_)
  refine tq_wi_e (fun r102 z101 h => ?_)
  refine tq_s_aload_n (kk := 2) (by decide +kernel) rfl ?_
  refine tq_callV (as := []) (st := [.int r102]) (d1 := 4) (x1 := 0) (x2 := (x + 1)) (by decide +kernel) ln_13_190 mf_X12_holes rfl sh_51 rfl (by decide) np_X12_holes rfl (Nat.le_of_ble_eq_true rfl) (by decide) (Nat.zero_add _).symm (tq_M_mono (am_X12_holes h) ?_)
  refine tq_wi_e (fun r104 z103 h => ?_)
  refine tq_icmp_eq (off := 2035) (tgt := 2748) (by decide +kernel) (by decide +kernel) (fun hc => ?_) (fun hc => ?_)
  · replace h := h.1 hc
    exact tq_Tx (ac_law_2748 hB28 h)
  · replace h := h.2 hc
    refine tq_k_ic (n := 0) (v := (0 : Int32)) (by decide +kernel) kc_0 ?_
    exact tq_ret_z (st := []) (ty := .boolean) (by decide +kernel) (by decide +kernel) rfl h
def wc_law_692 (K : Nat × (Nat → Int32)) (B28 : Int32 → tq_S → Prop) (Q : tq_O → tq_S → Prop) (a5 : Int32) (z : tq_S) : Prop := wm_X11_parts z (tq_wi fun r102 z101 => wm_X12_parts z101 (tq_wi fun r104 z103 => ((r102 = r104 → wc_law_2748 K B28 Q a5 z103) ∧ (¬ r102 = r104 → Q (.inl (some (.int (0 : Int32)))) z103))))
theorem ac_law_692 {K : Nat × (Nat → Int32)} {x : Nat} {Q : tq_O → tq_S → Prop} {B28 : Int32 → tq_S → Prop} {a5 : Int32} {z : tq_S} (hB28 : ∀ (b5 : Int32) (z : tq_S), B28 b5 z → tq_T K 93 x mm_law 28 [.ref 902, .ref 0, .ref 51, .ref 87, .ref 88, .int b5, .null, .null, .null] [] z Q) (h : wc_law_692 K B28 Q a5 z) : tq_T K 93 (x + 1) mm_law 692 [.ref 902, .ref 0, .ref 51, .ref 87, .ref 88, .int a5, .null, .null, .null] [] z Q := by
  unfold wc_law_692 at h
  refine tq_s_aload_n (kk := 1) (by decide +kernel) rfl ?_
  refine tq_callV (as := []) (st := []) (d1 := 4) (x1 := 0) (x2 := (x + 1)) (by decide +kernel) ln_13_183 mf_X11_parts rfl sh_0 rfl (by decide) np_X11_parts rfl (Nat.le_of_ble_eq_true rfl) (by decide) (Nat.zero_add _).symm (tq_M_mono (am_X11_parts h) ?_)
  refine tq_wi_e (fun r102 z101 h => ?_)
  refine tq_s_aload_n (kk := 2) (by decide +kernel) rfl ?_
  refine tq_callV (as := []) (st := [.int r102]) (d1 := 3) (x1 := 0) (x2 := (x + 1)) (by decide +kernel) ln_13_186 mf_X12_parts rfl sh_51 rfl (by decide) np_X12_parts rfl (Nat.le_of_ble_eq_true rfl) (by decide) (Nat.zero_add _).symm (tq_M_mono (am_X12_parts h) ?_)
  refine tq_wi_e (fun r104 z103 h => ?_)
  refine tq_icmp_eq (off := 2048) (tgt := 2748) (by decide +kernel) (by decide +kernel) (fun hc => ?_) (fun hc => ?_)
  · replace h := h.1 hc
    exact tq_Tx (ac_law_2748 hB28 h)
  · replace h := h.2 hc
    refine tq_k_ic (n := 0) (v := (0 : Int32)) (by decide +kernel) kc_0 ?_
    exact tq_ret_z (st := []) (ty := .boolean) (by decide +kernel) (by decide +kernel) rfl h
def wc_law_655 (K : Nat × (Nat → Int32)) (B28 : Int32 → tq_S → Prop) (Q : tq_O → tq_S → Prop) (a5 : Int32) (z : tq_S) : Prop := vp_in (a5 + (1 : Int32)) K.1 ∧ vp_in (a5 + (2 : Int32)) K.1 ∧ wm_X11_has (K.2 (Int32.toNatClampNeg (a5 + (1 : Int32)))) (K.2 (Int32.toNatClampNeg (a5 + (2 : Int32)))) z (tq_wi fun r102 z101 => vp_in (a5 + (1 : Int32)) K.1 ∧ vp_in (a5 + (2 : Int32)) K.1 ∧ wm_X12_has (K.2 (Int32.toNatClampNeg (a5 + (1 : Int32)))) (K.2 (Int32.toNatClampNeg (a5 + (2 : Int32)))) z101 (tq_wi fun r104 z103 => ((r102 = r104 → wc_law_2748 K B28 Q a5 z103) ∧ (¬ r102 = r104 → Q (.inl (some (.int (0 : Int32)))) z103))))
theorem ac_law_655 {K : Nat × (Nat → Int32)} {x : Nat} {Q : tq_O → tq_S → Prop} {B28 : Int32 → tq_S → Prop} {a5 : Int32} {z : tq_S} (hB28 : ∀ (b5 : Int32) (z : tq_S), B28 b5 z → tq_T K 93 x mm_law 28 [.ref 902, .ref 0, .ref 51, .ref 87, .ref 88, .int b5, .null, .null, .null] [] z Q) (h : wc_law_655 K B28 Q a5 z) : tq_T K 93 (x + 1) mm_law 655 [.ref 902, .ref 0, .ref 51, .ref 87, .ref 88, .int a5, .null, .null, .null] [] z Q := by
  unfold wc_law_655 at h
  refine tq_s_aload_n (kk := 1) (by decide +kernel) rfl ?_
  refine tq_s_aload_n (kk := 0) (by decide +kernel) rfl ?_
  refine tq_s_iload (i := 5) (by decide +kernel) rfl ?_
  refine tq_k_ic (n := 1) (v := (1 : Int32)) (by decide +kernel) kc_1 ?_
  refine tq_s_iadd (by decide +kernel) ?_
  refine tq_s_caload (b := 902) (n := K.1) (f := K.2) (by decide +kernel) rfl h.1 ?_
  replace h := h.2
  refine tq_s_aload_n (kk := 0) (by decide +kernel) rfl ?_
  refine tq_s_iload (i := 5) (by decide +kernel) rfl ?_
  refine tq_k_ic (n := 2) (v := (2 : Int32)) (by decide +kernel) kc_2 ?_
  refine tq_s_iadd (by decide +kernel) ?_
  refine tq_s_caload (b := 902) (n := K.1) (f := K.2) (by decide +kernel) rfl h.1 ?_
  replace h := h.2
  refine tq_callV (as := [.int (K.2 (Int32.toNatClampNeg (a5 + (1 : Int32)))), .int (K.2 (Int32.toNatClampNeg (a5 + (2 : Int32))))]) (st := []) (d1 := 1) (x1 := 0) (x2 := (x + 1)) (by decide +kernel) ln_13_178 mf_X11_has rfl sh_0 rfl (by decide) np_X11_has rfl (Nat.le_of_ble_eq_true rfl) (by decide) (Nat.zero_add _).symm (tq_M_mono (am_X11_has h) ?_)
  refine tq_wi_e (fun r102 z101 h => ?_)
  refine tq_s_aload_n (kk := 2) (by decide +kernel) rfl ?_
  refine tq_s_aload_n (kk := 0) (by decide +kernel) rfl ?_
  refine tq_s_iload (i := 5) (by decide +kernel) rfl ?_
  refine tq_k_ic (n := 1) (v := (1 : Int32)) (by decide +kernel) kc_1 ?_
  refine tq_s_iadd (by decide +kernel) ?_
  refine tq_s_caload (b := 902) (n := K.1) (f := K.2) (by decide +kernel) rfl h.1 ?_
  replace h := h.2
  refine tq_s_aload_n (kk := 0) (by decide +kernel) rfl ?_
  refine tq_s_iload (i := 5) (by decide +kernel) rfl ?_
  refine tq_k_ic (n := 2) (v := (2 : Int32)) (by decide +kernel) kc_2 ?_
  refine tq_s_iadd (by decide +kernel) ?_
  refine tq_s_caload (b := 902) (n := K.1) (f := K.2) (by decide +kernel) rfl h.1 ?_
  replace h := h.2
  refine tq_callV (as := [.int (K.2 (Int32.toNatClampNeg (a5 + (1 : Int32)))), .int (K.2 (Int32.toNatClampNeg (a5 + (2 : Int32))))]) (st := [.int r102]) (d1 := 2) (x1 := 0) (x2 := (x + 1)) (by decide +kernel) ln_13_182 mf_X12_has rfl sh_51 rfl (by decide) np_X12_has rfl (Nat.le_of_ble_eq_true rfl) (by decide) (Nat.zero_add _).symm (tq_M_mono (am_X12_has h) ?_)
  refine tq_wi_e (fun r104 z103 h => ?_)
  refine tq_icmp_eq (off := 2061) (tgt := 2748) (by decide +kernel) (by decide +kernel) (fun hc => ?_) (fun hc => ?_)
  · replace h := h.1 hc
    exact tq_Tx (ac_law_2748 hB28 h)
  · replace h := h.2 hc
    refine tq_k_ic (n := 0) (v := (0 : Int32)) (by decide +kernel) kc_0 ?_
    exact tq_ret_z (st := []) (ty := .boolean) (by decide +kernel) (by decide +kernel) rfl h
def wc_law_652 (K : Nat × (Nat → Int32)) (B28 : Int32 → tq_S → Prop) (Q : tq_O → tq_S → Prop) (a5 : Int32) (z : tq_S) : Prop := wc_law_2748 K B28 Q a5 z
theorem ac_law_652 {K : Nat × (Nat → Int32)} {x : Nat} {Q : tq_O → tq_S → Prop} {B28 : Int32 → tq_S → Prop} {a5 : Int32} {z : tq_S} (hB28 : ∀ (b5 : Int32) (z : tq_S), B28 b5 z → tq_T K 93 x mm_law 28 [.ref 902, .ref 0, .ref 51, .ref 87, .ref 88, .int b5, .null, .null, .null] [] z Q) (h : wc_law_652 K B28 Q a5 z) : tq_T K 93 x mm_law 652 [.ref 902, .ref 0, .ref 51, .ref 87, .ref 88, .int a5, .null, .null, .null] [] z Q := by
  unfold wc_law_652 at h
  refine tq_s_goto (off := 2096) (tgt := 2748) (by decide +kernel) (by decide +kernel) ?_
  exact ac_law_2748 hB28 h
def wc_law_597 (K : Nat × (Nat → Int32)) (B28 : Int32 → tq_S → Prop) (Q : tq_O → tq_S → Prop) (a5 : Int32) (z : tq_S) : Prop := vp_in (a5 + (1 : Int32)) K.1 ∧ wm_L_cells ((Int32.toUInt32 (K.2 (Int32.toNatClampNeg (a5 + (1 : Int32))))) % 65536).toInt32 z (tq_wi fun r102 z101 => vp_in (a5 + (1 : Int32)) K.1 ∧ wm_X12_cells ((Int32.toUInt32 (K.2 (Int32.toNatClampNeg (a5 + (1 : Int32))))) % 65536).toInt32 z101 (tq_wi fun r104 z103 => wm_X12_thrown z103 (tq_wi fun r106 z105 => ((r106 = r102 → ((¬ r102 = 0 → wc_law_652 K B28 Q a5 z105) ∧ (r102 = 0 → (((tq_al z105 87 (Int32.toNatClampNeg (0 : Int32))) = (Int32.toInt64 r104) → wc_law_652 K B28 Q a5 z105) ∧ (¬ (tq_al z105 87 (Int32.toNatClampNeg (0 : Int32))) = (Int32.toInt64 r104) → Q (.inl (some (.int (0 : Int32)))) z105))))) ∧ (¬ r106 = r102 → Q (.inl (some (.int (0 : Int32)))) z105)))))
theorem ac_law_597 {K : Nat × (Nat → Int32)} {x : Nat} {Q : tq_O → tq_S → Prop} {B28 : Int32 → tq_S → Prop} {a5 : Int32} {z : tq_S} (hB28 : ∀ (b5 : Int32) (z : tq_S), B28 b5 z → tq_T K 93 x mm_law 28 [.ref 902, .ref 0, .ref 51, .ref 87, .ref 88, .int b5, .null, .null, .null] [] z Q) (h : wc_law_597 K B28 Q a5 z) : tq_T K 93 (x + 1) mm_law 597 [.ref 902, .ref 0, .ref 51, .ref 87, .ref 88, .int a5, .null, .null, .null] [] z Q := by
  unfold wc_law_597 at h
  refine tq_s_aload_n (kk := 1) (by decide +kernel) rfl ?_
  refine tq_s_aload_n (kk := 0) (by decide +kernel) rfl ?_
  refine tq_s_iload (i := 5) (by decide +kernel) rfl ?_
  refine tq_k_ic (n := 1) (v := (1 : Int32)) (by decide +kernel) kc_1 ?_
  refine tq_s_iadd (by decide +kernel) ?_
  refine tq_s_caload (b := 902) (n := K.1) (f := K.2) (by decide +kernel) rfl h.1 ?_
  replace h := h.2
  refine tq_s_i2c (by decide +kernel) ?_
  refine tq_s_aload_n (kk := 3) (by decide +kernel) rfl ?_
  refine tq_callSH (as := [.ref 0, .int ((Int32.toUInt32 (K.2 (Int32.toNatClampNeg (a5 + (1 : Int32))))) % 65536).toInt32, .ref 87]) (st := []) (d1 := 3) (x1 := 1) (x2 := x) (by decide +kernel) ln_13_174 mf_L_cells rfl (by decide) np_L_cells rfl (Nat.le_of_ble_eq_true rfl) (by decide) (Nat.add_comm _ _) (tq_M_mono (am_L_cells (x := 0) h) ?_)
  refine tq_wi_e (fun r102 z101 h => ?_)
  refine tq_s_istore (i := 6) (L9 := [.ref 902, .ref 0, .ref 51, .ref 87, .ref 88, .int a5, .int r102, .null, .null]) (by decide +kernel) (by decide) rfl ?_
  refine tq_s_aload_n (kk := 2) (by decide +kernel) rfl ?_
  refine tq_s_aload_n (kk := 0) (by decide +kernel) rfl ?_
  refine tq_s_iload (i := 5) (by decide +kernel) rfl ?_
  refine tq_k_ic (n := 1) (v := (1 : Int32)) (by decide +kernel) kc_1 ?_
  refine tq_s_iadd (by decide +kernel) ?_
  refine tq_s_caload (b := 902) (n := K.1) (f := K.2) (by decide +kernel) rfl h.1 ?_
  replace h := h.2
  refine tq_s_i2c (by decide +kernel) ?_
  refine tq_callV (as := [.int ((Int32.toUInt32 (K.2 (Int32.toNatClampNeg (a5 + (1 : Int32))))) % 65536).toInt32]) (st := []) (d1 := 1) (x1 := 0) (x2 := x) (by decide +kernel) ln_13_177 mf_X12_cells rfl sh_51 rfl (by decide) np_X12_cells rfl (Nat.le_of_ble_eq_true rfl) (by decide) (Nat.zero_add _).symm (tq_M_mono (am_X12_cells h) ?_)
  refine tq_wi_e (fun r104 z103 h => ?_)
  refine tq_s_istore (i := 7) (L9 := [.ref 902, .ref 0, .ref 51, .ref 87, .ref 88, .int a5, .int r102, .int r104, .null]) (by decide +kernel) (by decide) rfl ?_
  refine tq_s_aload_n (kk := 2) (by decide +kernel) rfl ?_
  refine tq_callV (as := []) (st := []) (d1 := 0) (x1 := 0) (x2 := x) (by decide +kernel) ln_13_157 mf_X12_thrown rfl sh_51 rfl (by decide) np_X12_thrown rfl (Nat.le_of_ble_eq_true rfl) (by decide) (Nat.zero_add _).symm (tq_M_mono (am_X12_thrown h) ?_)
  refine tq_wi_e (fun r106 z105 h => ?_)
  refine tq_s_iload (i := 6) (by decide +kernel) rfl ?_
  refine tq_icmp_eq (off := 5) (tgt := 635) (by decide +kernel) (by decide +kernel) (fun hc => ?_) (fun hc => ?_)
  · replace h := h.1 hc
    refine tq_s_iload (i := 6) (by decide +kernel) rfl ?_
    refine tq_if_ne (off := 15) (tgt := 652) (by decide +kernel) (by decide +kernel) (fun hc => ?_) (fun hc => ?_)
    · replace h := h.1 hc
      exact tq_to (tq_lk1 (tq_lk1 (tq_lk1 (tq_lk1 (tq_lk1 (tq_lk1 (tq_ld1 (tq_ld1 (tq_lk1 tq_l0))))))))) (ac_law_652 hB28 h)
    · replace h := h.2 hc
      refine tq_s_aload_n (kk := 3) (by decide +kernel) rfl ?_
      refine tq_k_ic (n := 0) (v := (0 : Int32)) (by decide +kernel) kc_0 ?_
      refine tq_s_lald (by decide +kernel) sh_87 vi_0_1 ?_
      refine tq_s_iload (i := 7) (by decide +kernel) rfl ?_
      refine tq_s_i2l (by decide +kernel) ?_
      refine tq_lcmp_eq (off := 5) (tgt := 652) (by decide +kernel) (by decide +kernel) (by decide +kernel) (fun hc => ?_) (fun hc => ?_)
      · replace h := h.1 hc
        exact tq_to (tq_lk1 (tq_lk1 (tq_lk1 (tq_lk1 (tq_lk1 (tq_lk1 (tq_ld1 (tq_ld1 (tq_lk1 tq_l0))))))))) (ac_law_652 hB28 h)
      · replace h := h.2 hc
        refine tq_k_ic (n := 0) (v := (0 : Int32)) (by decide +kernel) kc_0 ?_
        exact tq_ret_z (st := []) (ty := .boolean) (by decide +kernel) (by decide +kernel) rfl h
  · replace h := h.2 hc
    refine tq_k_ic (n := 0) (v := (0 : Int32)) (by decide +kernel) kc_0 ?_
    exact tq_ret_z (st := []) (ty := .boolean) (by decide +kernel) (by decide +kernel) rfl h
def wc_law_594 (K : Nat × (Nat → Int32)) (B28 : Int32 → tq_S → Prop) (Q : tq_O → tq_S → Prop) (a5 : Int32) (z : tq_S) : Prop := wc_law_2748 K B28 Q a5 z
theorem ac_law_594 {K : Nat × (Nat → Int32)} {x : Nat} {Q : tq_O → tq_S → Prop} {B28 : Int32 → tq_S → Prop} {a5 : Int32} {z : tq_S} (hB28 : ∀ (b5 : Int32) (z : tq_S), B28 b5 z → tq_T K 93 x mm_law 28 [.ref 902, .ref 0, .ref 51, .ref 87, .ref 88, .int b5, .null, .null, .null] [] z Q) (h : wc_law_594 K B28 Q a5 z) : tq_T K 93 x mm_law 594 [.ref 902, .ref 0, .ref 51, .ref 87, .ref 88, .int a5, .null, .null, .null] [] z Q := by
  unfold wc_law_594 at h
  refine tq_s_goto (off := 2154) (tgt := 2748) (by decide +kernel) (by decide +kernel) ?_
  exact ac_law_2748 hB28 h
def wc_law_588 (K : Nat × (Nat → Int32)) (B28 : Int32 → tq_S → Prop) (Q : tq_O → tq_S → Prop) (a5 : Int32) (s0 : Int64) (s1 : Int64) (z : tq_S) : Prop := ((s1 = s0 → wc_law_594 K B28 Q a5 z) ∧ (¬ s1 = s0 → Q (.inl (some (.int (0 : Int32)))) z))
theorem ac_law_588 {K : Nat × (Nat → Int32)} {x : Nat} {Q : tq_O → tq_S → Prop} {B28 : Int32 → tq_S → Prop} {a5 : Int32} {s0 : Int64} {s1 : Int64} {z : tq_S} (hB28 : ∀ (b5 : Int32) (z : tq_S), B28 b5 z → tq_T K 93 x mm_law 28 [.ref 902, .ref 0, .ref 51, .ref 87, .ref 88, .int b5, .null, .null, .null] [] z Q) (h : wc_law_588 K B28 Q a5 s0 s1 z) : tq_T K 93 x mm_law 588 [.ref 902, .ref 0, .ref 51, .ref 87, .ref 88, .int a5, .null, .null, .null] [.long s0, .long s1] z Q := by
  unfold wc_law_588 at h
  refine tq_lcmp_eq (off := 5) (tgt := 594) (by decide +kernel) (by decide +kernel) (by decide +kernel) (fun hc => ?_) (fun hc => ?_)
  · replace h := h.1 hc
    exact ac_law_594 hB28 h
  · replace h := h.2 hc
    refine tq_k_ic (n := 0) (v := (0 : Int32)) (by decide +kernel) kc_0 ?_
    exact tq_ret_z (st := []) (ty := .boolean) (by decide +kernel) (by decide +kernel) rfl h
def wc_law_554 (K : Nat × (Nat → Int32)) (B28 : Int32 → tq_S → Prop) (Q : tq_O → tq_S → Prop) (a5 : Int32) (a6 : Int32) (s0 : Int32) (z : tq_S) : Prop := wm_X12_roll s0 z (tq_wi fun r102 z101 => wm_X12_thrown z101 (tq_wi fun r104 z103 => ((r104 = a6 → ((¬ a6 = 0 → wc_law_594 K B28 Q a5 z103) ∧ (a6 = 0 → ((r102 = 0 → wc_law_588 K B28 Q a5 (0 : Int64) (tq_al z103 87 (Int32.toNatClampNeg (0 : Int32))) z103) ∧ (¬ r102 = 0 → wc_law_588 K B28 Q a5 (1 : Int64) (tq_al z103 87 (Int32.toNatClampNeg (0 : Int32))) z103))))) ∧ (¬ r104 = a6 → Q (.inl (some (.int (0 : Int32)))) z103))))
theorem ac_law_554 {K : Nat × (Nat → Int32)} {x : Nat} {Q : tq_O → tq_S → Prop} {B28 : Int32 → tq_S → Prop} {a5 : Int32} {a6 : Int32} {s0 : Int32} {z : tq_S} (hB28 : ∀ (b5 : Int32) (z : tq_S), B28 b5 z → tq_T K 93 x mm_law 28 [.ref 902, .ref 0, .ref 51, .ref 87, .ref 88, .int b5, .null, .null, .null] [] z Q) (h : wc_law_554 K B28 Q a5 a6 s0 z) : tq_T K 93 x mm_law 554 [.ref 902, .ref 0, .ref 51, .ref 87, .ref 88, .int a5, .int a6, .null, .null] [.int s0, .ref 51] z Q := by
  unfold wc_law_554 at h
  refine tq_callV (as := [.int s0]) (st := []) (d1 := 1) (x1 := 0) (x2 := x) (by decide +kernel) ln_13_173 mf_X12_roll rfl sh_51 rfl (by decide) np_X12_roll rfl (Nat.le_of_ble_eq_true rfl) (by decide) (Nat.zero_add _).symm (tq_M_mono (am_X12_roll h) ?_)
  refine tq_wi_e (fun r102 z101 h => ?_)
  refine tq_s_istore (i := 7) (L9 := [.ref 902, .ref 0, .ref 51, .ref 87, .ref 88, .int a5, .int a6, .int r102, .null]) (by decide +kernel) (by decide) rfl ?_
  refine tq_s_aload_n (kk := 2) (by decide +kernel) rfl ?_
  refine tq_callV (as := []) (st := []) (d1 := 0) (x1 := 0) (x2 := x) (by decide +kernel) ln_13_157 mf_X12_thrown rfl sh_51 rfl (by decide) np_X12_thrown rfl (Nat.le_of_ble_eq_true rfl) (by decide) (Nat.zero_add _).symm (tq_M_mono (am_X12_thrown h) ?_)
  refine tq_wi_e (fun r104 z103 h => ?_)
  refine tq_s_iload (i := 6) (by decide +kernel) rfl ?_
  refine tq_icmp_eq (off := 5) (tgt := 570) (by decide +kernel) (by decide +kernel) (fun hc => ?_) (fun hc => ?_)
  · replace h := h.1 hc
    refine tq_s_iload (i := 6) (by decide +kernel) rfl ?_
    refine tq_if_ne (off := 22) (tgt := 594) (by decide +kernel) (by decide +kernel) (fun hc => ?_) (fun hc => ?_)
    · replace h := h.1 hc
      exact tq_to (tq_lk1 (tq_lk1 (tq_lk1 (tq_lk1 (tq_lk1 (tq_lk1 (tq_ld1 (tq_ld1 (tq_lk1 tq_l0))))))))) (ac_law_594 hB28 h)
    · replace h := h.2 hc
      refine tq_s_aload_n (kk := 3) (by decide +kernel) rfl ?_
      refine tq_k_ic (n := 0) (v := (0 : Int32)) (by decide +kernel) kc_0 ?_
      refine tq_s_lald (by decide +kernel) sh_87 vi_0_1 ?_
      refine tq_s_iload (i := 7) (by decide +kernel) rfl ?_
      refine tq_if_eq (off := 7) (tgt := 587) (by decide +kernel) (by decide +kernel) (fun hc => ?_) (fun hc => ?_)
      · replace h := h.1 hc
        refine tq_k_lc (n := 0) (v := (0 : Int64)) (by decide +kernel) (by decide +kernel) ?_
        exact tq_to (tq_lk1 (tq_lk1 (tq_lk1 (tq_lk1 (tq_lk1 (tq_lk1 (tq_ld1 (tq_ld1 (tq_lk1 tq_l0))))))))) (ac_law_588 hB28 h)
      · replace h := h.2 hc
        refine tq_k_lc (n := 1) (v := (1 : Int64)) (by decide +kernel) (by decide +kernel) ?_
        refine tq_s_goto (off := 4) (tgt := 588) (by decide +kernel) (by decide +kernel) ?_
        exact tq_to (tq_lk1 (tq_lk1 (tq_lk1 (tq_lk1 (tq_lk1 (tq_lk1 (tq_ld1 (tq_ld1 (tq_lk1 tq_l0))))))))) (ac_law_588 hB28 h)
  · replace h := h.2 hc
    refine tq_k_ic (n := 0) (v := (0 : Int32)) (by decide +kernel) kc_0 ?_
    exact tq_ret_z (st := []) (ty := .boolean) (by decide +kernel) (by decide +kernel) rfl h
def wc_law_533 (K : Nat × (Nat → Int32)) (B28 : Int32 → tq_S → Prop) (Q : tq_O → tq_S → Prop) (a5 : Int32) (s0 : Int32) (z : tq_S) : Prop := wm_L_roll s0 z (tq_wi fun r102 z101 => vp_in (a5 + (1 : Int32)) K.1 ∧ (((K.2 (Int32.toNatClampNeg (a5 + (1 : Int32)))) = 0 → wc_law_554 K B28 Q a5 r102 (0 : Int32) z101) ∧ (¬ (K.2 (Int32.toNatClampNeg (a5 + (1 : Int32)))) = 0 → wc_law_554 K B28 Q a5 r102 (1 : Int32) z101)))
theorem ac_law_533 {K : Nat × (Nat → Int32)} {x : Nat} {Q : tq_O → tq_S → Prop} {B28 : Int32 → tq_S → Prop} {a5 : Int32} {s0 : Int32} {z : tq_S} (hB28 : ∀ (b5 : Int32) (z : tq_S), B28 b5 z → tq_T K 93 x mm_law 28 [.ref 902, .ref 0, .ref 51, .ref 87, .ref 88, .int b5, .null, .null, .null] [] z Q) (h : wc_law_533 K B28 Q a5 s0 z) : tq_T K 93 (x + 1) mm_law 533 [.ref 902, .ref 0, .ref 51, .ref 87, .ref 88, .int a5, .null, .null, .null] [.int s0, .ref 0] z Q := by
  unfold wc_law_533 at h
  refine tq_s_aload_n (kk := 3) (by decide +kernel) rfl ?_
  refine tq_callSH (as := [.ref 0, .int s0, .ref 87]) (st := []) (d1 := 2) (x1 := 1) (x2 := x) (by decide +kernel) ln_13_170 mf_L_roll rfl (by decide) np_L_roll rfl (Nat.le_of_ble_eq_true rfl) (by decide) (Nat.add_comm _ _) (tq_M_mono (am_L_roll (x := 0) h) ?_)
  refine tq_wi_e (fun r102 z101 h => ?_)
  refine tq_s_istore (i := 6) (L9 := [.ref 902, .ref 0, .ref 51, .ref 87, .ref 88, .int a5, .int r102, .null, .null]) (by decide +kernel) (by decide) rfl ?_
  refine tq_s_aload_n (kk := 2) (by decide +kernel) rfl ?_
  refine tq_s_aload_n (kk := 0) (by decide +kernel) rfl ?_
  refine tq_s_iload (i := 5) (by decide +kernel) rfl ?_
  refine tq_k_ic (n := 1) (v := (1 : Int32)) (by decide +kernel) kc_1 ?_
  refine tq_s_iadd (by decide +kernel) ?_
  refine tq_s_caload (b := 902) (n := K.1) (f := K.2) (by decide +kernel) rfl h.1 ?_
  replace h := h.2
  refine tq_if_eq (off := 7) (tgt := 553) (by decide +kernel) (by decide +kernel) (fun hc => ?_) (fun hc => ?_)
  · replace h := h.1 hc
    refine tq_k_ic (n := 0) (v := (0 : Int32)) (by decide +kernel) kc_0 ?_
    exact ac_law_554 hB28 h
  · replace h := h.2 hc
    refine tq_k_ic (n := 1) (v := (1 : Int32)) (by decide +kernel) kc_1 ?_
    refine tq_s_goto (off := 4) (tgt := 554) (by decide +kernel) (by decide +kernel) ?_
    exact ac_law_554 hB28 h
def wc_law_518 (K : Nat × (Nat → Int32)) (B28 : Int32 → tq_S → Prop) (Q : tq_O → tq_S → Prop) (a5 : Int32) (z : tq_S) : Prop := vp_in (a5 + (1 : Int32)) K.1 ∧ (((K.2 (Int32.toNatClampNeg (a5 + (1 : Int32)))) = 0 → wc_law_533 K B28 Q a5 (0 : Int32) z) ∧ (¬ (K.2 (Int32.toNatClampNeg (a5 + (1 : Int32)))) = 0 → wc_law_533 K B28 Q a5 (1 : Int32) z))
theorem ac_law_518 {K : Nat × (Nat → Int32)} {x : Nat} {Q : tq_O → tq_S → Prop} {B28 : Int32 → tq_S → Prop} {a5 : Int32} {z : tq_S} (hB28 : ∀ (b5 : Int32) (z : tq_S), B28 b5 z → tq_T K 93 x mm_law 28 [.ref 902, .ref 0, .ref 51, .ref 87, .ref 88, .int b5, .null, .null, .null] [] z Q) (h : wc_law_518 K B28 Q a5 z) : tq_T K 93 (x + 1) mm_law 518 [.ref 902, .ref 0, .ref 51, .ref 87, .ref 88, .int a5, .null, .null, .null] [] z Q := by
  unfold wc_law_518 at h
  refine tq_s_aload_n (kk := 1) (by decide +kernel) rfl ?_
  refine tq_s_aload_n (kk := 0) (by decide +kernel) rfl ?_
  refine tq_s_iload (i := 5) (by decide +kernel) rfl ?_
  refine tq_k_ic (n := 1) (v := (1 : Int32)) (by decide +kernel) kc_1 ?_
  refine tq_s_iadd (by decide +kernel) ?_
  refine tq_s_caload (b := 902) (n := K.1) (f := K.2) (by decide +kernel) rfl h.1 ?_
  replace h := h.2
  refine tq_if_eq (off := 7) (tgt := 532) (by decide +kernel) (by decide +kernel) (fun hc => ?_) (fun hc => ?_)
  · replace h := h.1 hc
    refine tq_k_ic (n := 0) (v := (0 : Int32)) (by decide +kernel) kc_0 ?_
    exact ac_law_533 hB28 h
  · replace h := h.2 hc
    refine tq_k_ic (n := 1) (v := (1 : Int32)) (by decide +kernel) kc_1 ?_
    refine tq_s_goto (off := 4) (tgt := 533) (by decide +kernel) (by decide +kernel) ?_
    exact ac_law_533 hB28 h
def wc_law_515 (K : Nat × (Nat → Int32)) (B28 : Int32 → tq_S → Prop) (Q : tq_O → tq_S → Prop) (a5 : Int32) (z : tq_S) : Prop := wc_law_2748 K B28 Q a5 z
theorem ac_law_515 {K : Nat × (Nat → Int32)} {x : Nat} {Q : tq_O → tq_S → Prop} {B28 : Int32 → tq_S → Prop} {a5 : Int32} {z : tq_S} (hB28 : ∀ (b5 : Int32) (z : tq_S), B28 b5 z → tq_T K 93 x mm_law 28 [.ref 902, .ref 0, .ref 51, .ref 87, .ref 88, .int b5, .null, .null, .null] [] z Q) (h : wc_law_515 K B28 Q a5 z) : tq_T K 93 x mm_law 515 [.ref 902, .ref 0, .ref 51, .ref 87, .ref 88, .int a5, .null, .null, .null] [] z Q := by
  unfold wc_law_515 at h
  refine tq_s_goto (off := 2233) (tgt := 2748) (by decide +kernel) (by decide +kernel) ?_
  exact ac_law_2748 hB28 h
def wc_law_450 (K : Nat × (Nat → Int32)) (B28 : Int32 → tq_S → Prop) (Q : tq_O → tq_S → Prop) (a5 : Int32) (z : tq_S) : Prop := vp_in (a5 + (1 : Int32)) K.1 ∧ vp_in (a5 + (2 : Int32)) K.1 ∧ wm_L_fill (K.2 (Int32.toNatClampNeg (a5 + (1 : Int32)))) (K.2 (Int32.toNatClampNeg (a5 + (2 : Int32)))) z (tq_wi fun r102 z101 => vp_in (a5 + (1 : Int32)) K.1 ∧ vp_in (a5 + (2 : Int32)) K.1 ∧ wm_X12_fill (K.2 (Int32.toNatClampNeg (a5 + (1 : Int32)))) (K.2 (Int32.toNatClampNeg (a5 + (2 : Int32)))) z101 (tq_wi fun r104 z103 => wm_X12_thrown z103 (tq_wi fun r106 z105 => ((r106 = r102 → ((¬ r102 = 0 → wc_law_515 K B28 Q a5 z105) ∧ (r102 = 0 → (((tq_al z105 87 (Int32.toNatClampNeg (0 : Int32))) = (Int32.toInt64 r104) → wc_law_515 K B28 Q a5 z105) ∧ (¬ (tq_al z105 87 (Int32.toNatClampNeg (0 : Int32))) = (Int32.toInt64 r104) → Q (.inl (some (.int (0 : Int32)))) z105))))) ∧ (¬ r106 = r102 → Q (.inl (some (.int (0 : Int32)))) z105)))))
theorem ac_law_450 {K : Nat × (Nat → Int32)} {x : Nat} {Q : tq_O → tq_S → Prop} {B28 : Int32 → tq_S → Prop} {a5 : Int32} {z : tq_S} (hB28 : ∀ (b5 : Int32) (z : tq_S), B28 b5 z → tq_T K 93 x mm_law 28 [.ref 902, .ref 0, .ref 51, .ref 87, .ref 88, .int b5, .null, .null, .null] [] z Q) (h : wc_law_450 K B28 Q a5 z) : tq_T K 93 (x + 1) mm_law 450 [.ref 902, .ref 0, .ref 51, .ref 87, .ref 88, .int a5, .null, .null, .null] [] z Q := by
  unfold wc_law_450 at h
  refine tq_s_aload_n (kk := 1) (by decide +kernel) rfl ?_
  refine tq_s_aload_n (kk := 0) (by decide +kernel) rfl ?_
  refine tq_s_iload (i := 5) (by decide +kernel) rfl ?_
  refine tq_k_ic (n := 1) (v := (1 : Int32)) (by decide +kernel) kc_1 ?_
  refine tq_s_iadd (by decide +kernel) ?_
  refine tq_s_caload (b := 902) (n := K.1) (f := K.2) (by decide +kernel) rfl h.1 ?_
  replace h := h.2
  refine tq_s_aload_n (kk := 0) (by decide +kernel) rfl ?_
  refine tq_s_iload (i := 5) (by decide +kernel) rfl ?_
  refine tq_k_ic (n := 2) (v := (2 : Int32)) (by decide +kernel) kc_2 ?_
  refine tq_s_iadd (by decide +kernel) ?_
  refine tq_s_caload (b := 902) (n := K.1) (f := K.2) (by decide +kernel) rfl h.1 ?_
  replace h := h.2
  refine tq_s_aload_n (kk := 3) (by decide +kernel) rfl ?_
  refine tq_callSH (as := [.ref 0, .int (K.2 (Int32.toNatClampNeg (a5 + (1 : Int32)))), .int (K.2 (Int32.toNatClampNeg (a5 + (2 : Int32)))), .ref 87]) (st := []) (d1 := 3) (x1 := 1) (x2 := x) (by decide +kernel) ln_13_167 mf_L_fill rfl (by decide) np_L_fill rfl (Nat.le_of_ble_eq_true rfl) (by decide) (Nat.add_comm _ _) (tq_M_mono (am_L_fill (x := 0) h) ?_)
  refine tq_wi_e (fun r102 z101 h => ?_)
  refine tq_s_istore (i := 6) (L9 := [.ref 902, .ref 0, .ref 51, .ref 87, .ref 88, .int a5, .int r102, .null, .null]) (by decide +kernel) (by decide) rfl ?_
  refine tq_s_aload_n (kk := 2) (by decide +kernel) rfl ?_
  refine tq_s_aload_n (kk := 0) (by decide +kernel) rfl ?_
  refine tq_s_iload (i := 5) (by decide +kernel) rfl ?_
  refine tq_k_ic (n := 1) (v := (1 : Int32)) (by decide +kernel) kc_1 ?_
  refine tq_s_iadd (by decide +kernel) ?_
  refine tq_s_caload (b := 902) (n := K.1) (f := K.2) (by decide +kernel) rfl h.1 ?_
  replace h := h.2
  refine tq_s_aload_n (kk := 0) (by decide +kernel) rfl ?_
  refine tq_s_iload (i := 5) (by decide +kernel) rfl ?_
  refine tq_k_ic (n := 2) (v := (2 : Int32)) (by decide +kernel) kc_2 ?_
  refine tq_s_iadd (by decide +kernel) ?_
  refine tq_s_caload (b := 902) (n := K.1) (f := K.2) (by decide +kernel) rfl h.1 ?_
  replace h := h.2
  refine tq_callV (as := [.int (K.2 (Int32.toNatClampNeg (a5 + (1 : Int32)))), .int (K.2 (Int32.toNatClampNeg (a5 + (2 : Int32))))]) (st := []) (d1 := 2) (x1 := 0) (x2 := x) (by decide +kernel) ln_13_169 mf_X12_fill rfl sh_51 rfl (by decide) np_X12_fill rfl (Nat.le_of_ble_eq_true rfl) (by decide) (Nat.zero_add _).symm (tq_M_mono (am_X12_fill h) ?_)
  refine tq_wi_e (fun r104 z103 h => ?_)
  refine tq_s_istore (i := 7) (L9 := [.ref 902, .ref 0, .ref 51, .ref 87, .ref 88, .int a5, .int r102, .int r104, .null]) (by decide +kernel) (by decide) rfl ?_
  refine tq_s_aload_n (kk := 2) (by decide +kernel) rfl ?_
  refine tq_callV (as := []) (st := []) (d1 := 0) (x1 := 0) (x2 := x) (by decide +kernel) ln_13_157 mf_X12_thrown rfl sh_51 rfl (by decide) np_X12_thrown rfl (Nat.le_of_ble_eq_true rfl) (by decide) (Nat.zero_add _).symm (tq_M_mono (am_X12_thrown h) ?_)
  refine tq_wi_e (fun r106 z105 h => ?_)
  refine tq_s_iload (i := 6) (by decide +kernel) rfl ?_
  refine tq_icmp_eq (off := 5) (tgt := 498) (by decide +kernel) (by decide +kernel) (fun hc => ?_) (fun hc => ?_)
  · replace h := h.1 hc
    refine tq_s_iload (i := 6) (by decide +kernel) rfl ?_
    refine tq_if_ne (off := 15) (tgt := 515) (by decide +kernel) (by decide +kernel) (fun hc => ?_) (fun hc => ?_)
    · replace h := h.1 hc
      exact tq_to (tq_lk1 (tq_lk1 (tq_lk1 (tq_lk1 (tq_lk1 (tq_lk1 (tq_ld1 (tq_ld1 (tq_lk1 tq_l0))))))))) (ac_law_515 hB28 h)
    · replace h := h.2 hc
      refine tq_s_aload_n (kk := 3) (by decide +kernel) rfl ?_
      refine tq_k_ic (n := 0) (v := (0 : Int32)) (by decide +kernel) kc_0 ?_
      refine tq_s_lald (by decide +kernel) sh_87 vi_0_1 ?_
      refine tq_s_iload (i := 7) (by decide +kernel) rfl ?_
      refine tq_s_i2l (by decide +kernel) ?_
      refine tq_lcmp_eq (off := 5) (tgt := 515) (by decide +kernel) (by decide +kernel) (by decide +kernel) (fun hc => ?_) (fun hc => ?_)
      · replace h := h.1 hc
        exact tq_to (tq_lk1 (tq_lk1 (tq_lk1 (tq_lk1 (tq_lk1 (tq_lk1 (tq_ld1 (tq_ld1 (tq_lk1 tq_l0))))))))) (ac_law_515 hB28 h)
      · replace h := h.2 hc
        refine tq_k_ic (n := 0) (v := (0 : Int32)) (by decide +kernel) kc_0 ?_
        exact tq_ret_z (st := []) (ty := .boolean) (by decide +kernel) (by decide +kernel) rfl h
  · replace h := h.2 hc
    refine tq_k_ic (n := 0) (v := (0 : Int32)) (by decide +kernel) kc_0 ?_
    exact tq_ret_z (st := []) (ty := .boolean) (by decide +kernel) (by decide +kernel) rfl h
def wc_law_447 (K : Nat × (Nat → Int32)) (B28 : Int32 → tq_S → Prop) (Q : tq_O → tq_S → Prop) (a5 : Int32) (z : tq_S) : Prop := wc_law_2748 K B28 Q a5 z
theorem ac_law_447 {K : Nat × (Nat → Int32)} {x : Nat} {Q : tq_O → tq_S → Prop} {B28 : Int32 → tq_S → Prop} {a5 : Int32} {z : tq_S} (hB28 : ∀ (b5 : Int32) (z : tq_S), B28 b5 z → tq_T K 93 x mm_law 28 [.ref 902, .ref 0, .ref 51, .ref 87, .ref 88, .int b5, .null, .null, .null] [] z Q) (h : wc_law_447 K B28 Q a5 z) : tq_T K 93 x mm_law 447 [.ref 902, .ref 0, .ref 51, .ref 87, .ref 88, .int a5, .null, .null, .null] [] z Q := by
  unfold wc_law_447 at h
  refine tq_s_goto (off := 2301) (tgt := 2748) (by decide +kernel) (by decide +kernel) ?_
  exact ac_law_2748 hB28 h
def wc_law_382 (K : Nat × (Nat → Int32)) (B28 : Int32 → tq_S → Prop) (Q : tq_O → tq_S → Prop) (a5 : Int32) (z : tq_S) : Prop := vp_in (a5 + (1 : Int32)) K.1 ∧ vp_in (a5 + (2 : Int32)) K.1 ∧ wm_L_cut (K.2 (Int32.toNatClampNeg (a5 + (1 : Int32)))) (K.2 (Int32.toNatClampNeg (a5 + (2 : Int32)))) z (tq_wi fun r102 z101 => vp_in (a5 + (1 : Int32)) K.1 ∧ vp_in (a5 + (2 : Int32)) K.1 ∧ wm_X12_cut (K.2 (Int32.toNatClampNeg (a5 + (1 : Int32)))) (K.2 (Int32.toNatClampNeg (a5 + (2 : Int32)))) z101 (tq_wi fun r104 z103 => wm_X12_thrown z103 (tq_wi fun r106 z105 => ((r106 = r102 → ((¬ r102 = 0 → wc_law_447 K B28 Q a5 z105) ∧ (r102 = 0 → (((tq_al z105 87 (Int32.toNatClampNeg (0 : Int32))) = (Int32.toInt64 r104) → wc_law_447 K B28 Q a5 z105) ∧ (¬ (tq_al z105 87 (Int32.toNatClampNeg (0 : Int32))) = (Int32.toInt64 r104) → Q (.inl (some (.int (0 : Int32)))) z105))))) ∧ (¬ r106 = r102 → Q (.inl (some (.int (0 : Int32)))) z105)))))
theorem ac_law_382 {K : Nat × (Nat → Int32)} {x : Nat} {Q : tq_O → tq_S → Prop} {B28 : Int32 → tq_S → Prop} {a5 : Int32} {z : tq_S} (hB28 : ∀ (b5 : Int32) (z : tq_S), B28 b5 z → tq_T K 93 x mm_law 28 [.ref 902, .ref 0, .ref 51, .ref 87, .ref 88, .int b5, .null, .null, .null] [] z Q) (h : wc_law_382 K B28 Q a5 z) : tq_T K 93 (x + 1) mm_law 382 [.ref 902, .ref 0, .ref 51, .ref 87, .ref 88, .int a5, .null, .null, .null] [] z Q := by
  unfold wc_law_382 at h
  refine tq_s_aload_n (kk := 1) (by decide +kernel) rfl ?_
  refine tq_s_aload_n (kk := 0) (by decide +kernel) rfl ?_
  refine tq_s_iload (i := 5) (by decide +kernel) rfl ?_
  refine tq_k_ic (n := 1) (v := (1 : Int32)) (by decide +kernel) kc_1 ?_
  refine tq_s_iadd (by decide +kernel) ?_
  refine tq_s_caload (b := 902) (n := K.1) (f := K.2) (by decide +kernel) rfl h.1 ?_
  replace h := h.2
  refine tq_s_aload_n (kk := 0) (by decide +kernel) rfl ?_
  refine tq_s_iload (i := 5) (by decide +kernel) rfl ?_
  refine tq_k_ic (n := 2) (v := (2 : Int32)) (by decide +kernel) kc_2 ?_
  refine tq_s_iadd (by decide +kernel) ?_
  refine tq_s_caload (b := 902) (n := K.1) (f := K.2) (by decide +kernel) rfl h.1 ?_
  replace h := h.2
  refine tq_s_aload_n (kk := 3) (by decide +kernel) rfl ?_
  refine tq_callSH (as := [.ref 0, .int (K.2 (Int32.toNatClampNeg (a5 + (1 : Int32)))), .int (K.2 (Int32.toNatClampNeg (a5 + (2 : Int32)))), .ref 87]) (st := []) (d1 := 3) (x1 := 1) (x2 := x) (by decide +kernel) ln_13_164 mf_L_cut rfl (by decide) np_L_cut rfl (Nat.le_of_ble_eq_true rfl) (by decide) (Nat.add_comm _ _) (tq_M_mono (am_L_cut (x := 0) h) ?_)
  refine tq_wi_e (fun r102 z101 h => ?_)
  refine tq_s_istore (i := 6) (L9 := [.ref 902, .ref 0, .ref 51, .ref 87, .ref 88, .int a5, .int r102, .null, .null]) (by decide +kernel) (by decide) rfl ?_
  refine tq_s_aload_n (kk := 2) (by decide +kernel) rfl ?_
  refine tq_s_aload_n (kk := 0) (by decide +kernel) rfl ?_
  refine tq_s_iload (i := 5) (by decide +kernel) rfl ?_
  refine tq_k_ic (n := 1) (v := (1 : Int32)) (by decide +kernel) kc_1 ?_
  refine tq_s_iadd (by decide +kernel) ?_
  refine tq_s_caload (b := 902) (n := K.1) (f := K.2) (by decide +kernel) rfl h.1 ?_
  replace h := h.2
  refine tq_s_aload_n (kk := 0) (by decide +kernel) rfl ?_
  refine tq_s_iload (i := 5) (by decide +kernel) rfl ?_
  refine tq_k_ic (n := 2) (v := (2 : Int32)) (by decide +kernel) kc_2 ?_
  refine tq_s_iadd (by decide +kernel) ?_
  refine tq_s_caload (b := 902) (n := K.1) (f := K.2) (by decide +kernel) rfl h.1 ?_
  replace h := h.2
  refine tq_callV (as := [.int (K.2 (Int32.toNatClampNeg (a5 + (1 : Int32)))), .int (K.2 (Int32.toNatClampNeg (a5 + (2 : Int32))))]) (st := []) (d1 := 2) (x1 := 0) (x2 := x) (by decide +kernel) ln_13_166 mf_X12_cut rfl sh_51 rfl (by decide) np_X12_cut rfl (Nat.le_of_ble_eq_true rfl) (by decide) (Nat.zero_add _).symm (tq_M_mono (am_X12_cut h) ?_)
  refine tq_wi_e (fun r104 z103 h => ?_)
  refine tq_s_istore (i := 7) (L9 := [.ref 902, .ref 0, .ref 51, .ref 87, .ref 88, .int a5, .int r102, .int r104, .null]) (by decide +kernel) (by decide) rfl ?_
  refine tq_s_aload_n (kk := 2) (by decide +kernel) rfl ?_
  refine tq_callV (as := []) (st := []) (d1 := 0) (x1 := 0) (x2 := x) (by decide +kernel) ln_13_157 mf_X12_thrown rfl sh_51 rfl (by decide) np_X12_thrown rfl (Nat.le_of_ble_eq_true rfl) (by decide) (Nat.zero_add _).symm (tq_M_mono (am_X12_thrown h) ?_)
  refine tq_wi_e (fun r106 z105 h => ?_)
  refine tq_s_iload (i := 6) (by decide +kernel) rfl ?_
  refine tq_icmp_eq (off := 5) (tgt := 430) (by decide +kernel) (by decide +kernel) (fun hc => ?_) (fun hc => ?_)
  · replace h := h.1 hc
    refine tq_s_iload (i := 6) (by decide +kernel) rfl ?_
    refine tq_if_ne (off := 15) (tgt := 447) (by decide +kernel) (by decide +kernel) (fun hc => ?_) (fun hc => ?_)
    · replace h := h.1 hc
      exact tq_to (tq_lk1 (tq_lk1 (tq_lk1 (tq_lk1 (tq_lk1 (tq_lk1 (tq_ld1 (tq_ld1 (tq_lk1 tq_l0))))))))) (ac_law_447 hB28 h)
    · replace h := h.2 hc
      refine tq_s_aload_n (kk := 3) (by decide +kernel) rfl ?_
      refine tq_k_ic (n := 0) (v := (0 : Int32)) (by decide +kernel) kc_0 ?_
      refine tq_s_lald (by decide +kernel) sh_87 vi_0_1 ?_
      refine tq_s_iload (i := 7) (by decide +kernel) rfl ?_
      refine tq_s_i2l (by decide +kernel) ?_
      refine tq_lcmp_eq (off := 5) (tgt := 447) (by decide +kernel) (by decide +kernel) (by decide +kernel) (fun hc => ?_) (fun hc => ?_)
      · replace h := h.1 hc
        exact tq_to (tq_lk1 (tq_lk1 (tq_lk1 (tq_lk1 (tq_lk1 (tq_lk1 (tq_ld1 (tq_ld1 (tq_lk1 tq_l0))))))))) (ac_law_447 hB28 h)
      · replace h := h.2 hc
        refine tq_k_ic (n := 0) (v := (0 : Int32)) (by decide +kernel) kc_0 ?_
        exact tq_ret_z (st := []) (ty := .boolean) (by decide +kernel) (by decide +kernel) rfl h
  · replace h := h.2 hc
    refine tq_k_ic (n := 0) (v := (0 : Int32)) (by decide +kernel) kc_0 ?_
    exact tq_ret_z (st := []) (ty := .boolean) (by decide +kernel) (by decide +kernel) rfl h
def wc_law_379 (K : Nat × (Nat → Int32)) (B28 : Int32 → tq_S → Prop) (Q : tq_O → tq_S → Prop) (a5 : Int32) (z : tq_S) : Prop := wc_law_2748 K B28 Q a5 z
theorem ac_law_379 {K : Nat × (Nat → Int32)} {x : Nat} {Q : tq_O → tq_S → Prop} {B28 : Int32 → tq_S → Prop} {a5 : Int32} {z : tq_S} (hB28 : ∀ (b5 : Int32) (z : tq_S), B28 b5 z → tq_T K 93 x mm_law 28 [.ref 902, .ref 0, .ref 51, .ref 87, .ref 88, .int b5, .null, .null, .null] [] z Q) (h : wc_law_379 K B28 Q a5 z) : tq_T K 93 x mm_law 379 [.ref 902, .ref 0, .ref 51, .ref 87, .ref 88, .int a5, .null, .null, .null] [] z Q := by
  unfold wc_law_379 at h
  refine tq_s_goto (off := 2369) (tgt := 2748) (by decide +kernel) (by decide +kernel) ?_
  exact ac_law_2748 hB28 h
def wc_law_312 (K : Nat × (Nat → Int32)) (B28 : Int32 → tq_S → Prop) (Q : tq_O → tq_S → Prop) (a5 : Int32) (z : tq_S) : Prop := vp_in (a5 + (1 : Int32)) K.1 ∧ vp_in (a5 + (2 : Int32)) K.1 ∧ wm_L_form ((Int32.toUInt32 (K.2 (Int32.toNatClampNeg (a5 + (1 : Int32))))) % 65536).toInt32 (K.2 (Int32.toNatClampNeg (a5 + (2 : Int32)))) z (tq_wi fun r102 z101 => vp_in (a5 + (1 : Int32)) K.1 ∧ vp_in (a5 + (2 : Int32)) K.1 ∧ wm_X12_form ((Int32.toUInt32 (K.2 (Int32.toNatClampNeg (a5 + (1 : Int32))))) % 65536).toInt32 (K.2 (Int32.toNatClampNeg (a5 + (2 : Int32)))) z101 (tq_wi fun r104 z103 => wm_X12_thrown z103 (tq_wi fun r106 z105 => ((r106 = r102 → ((¬ r102 = 0 → wc_law_379 K B28 Q a5 z105) ∧ (r102 = 0 → (((tq_al z105 87 (Int32.toNatClampNeg (0 : Int32))) = (Int32.toInt64 r104) → wc_law_379 K B28 Q a5 z105) ∧ (¬ (tq_al z105 87 (Int32.toNatClampNeg (0 : Int32))) = (Int32.toInt64 r104) → Q (.inl (some (.int (0 : Int32)))) z105))))) ∧ (¬ r106 = r102 → Q (.inl (some (.int (0 : Int32)))) z105)))))
theorem ac_law_312 {K : Nat × (Nat → Int32)} {x : Nat} {Q : tq_O → tq_S → Prop} {B28 : Int32 → tq_S → Prop} {a5 : Int32} {z : tq_S} (hB28 : ∀ (b5 : Int32) (z : tq_S), B28 b5 z → tq_T K 93 x mm_law 28 [.ref 902, .ref 0, .ref 51, .ref 87, .ref 88, .int b5, .null, .null, .null] [] z Q) (h : wc_law_312 K B28 Q a5 z) : tq_T K 93 (x + 1) mm_law 312 [.ref 902, .ref 0, .ref 51, .ref 87, .ref 88, .int a5, .null, .null, .null] [] z Q := by
  unfold wc_law_312 at h
  refine tq_s_aload_n (kk := 1) (by decide +kernel) rfl ?_
  refine tq_s_aload_n (kk := 0) (by decide +kernel) rfl ?_
  refine tq_s_iload (i := 5) (by decide +kernel) rfl ?_
  refine tq_k_ic (n := 1) (v := (1 : Int32)) (by decide +kernel) kc_1 ?_
  refine tq_s_iadd (by decide +kernel) ?_
  refine tq_s_caload (b := 902) (n := K.1) (f := K.2) (by decide +kernel) rfl h.1 ?_
  replace h := h.2
  refine tq_s_i2c (by decide +kernel) ?_
  refine tq_s_aload_n (kk := 0) (by decide +kernel) rfl ?_
  refine tq_s_iload (i := 5) (by decide +kernel) rfl ?_
  refine tq_k_ic (n := 2) (v := (2 : Int32)) (by decide +kernel) kc_2 ?_
  refine tq_s_iadd (by decide +kernel) ?_
  refine tq_s_caload (b := 902) (n := K.1) (f := K.2) (by decide +kernel) rfl h.1 ?_
  replace h := h.2
  refine tq_s_aload_n (kk := 3) (by decide +kernel) rfl ?_
  refine tq_callSH (as := [.ref 0, .int ((Int32.toUInt32 (K.2 (Int32.toNatClampNeg (a5 + (1 : Int32))))) % 65536).toInt32, .int (K.2 (Int32.toNatClampNeg (a5 + (2 : Int32)))), .ref 87]) (st := []) (d1 := 4) (x1 := 1) (x2 := x) (by decide +kernel) ln_13_160 mf_L_form rfl (by decide) np_L_form rfl (Nat.le_of_ble_eq_true rfl) (by decide) (Nat.add_comm _ _) (tq_M_mono (am_L_form (x := 0) h) ?_)
  refine tq_wi_e (fun r102 z101 h => ?_)
  refine tq_s_istore (i := 6) (L9 := [.ref 902, .ref 0, .ref 51, .ref 87, .ref 88, .int a5, .int r102, .null, .null]) (by decide +kernel) (by decide) rfl ?_
  refine tq_s_aload_n (kk := 2) (by decide +kernel) rfl ?_
  refine tq_s_aload_n (kk := 0) (by decide +kernel) rfl ?_
  refine tq_s_iload (i := 5) (by decide +kernel) rfl ?_
  refine tq_k_ic (n := 1) (v := (1 : Int32)) (by decide +kernel) kc_1 ?_
  refine tq_s_iadd (by decide +kernel) ?_
  refine tq_s_caload (b := 902) (n := K.1) (f := K.2) (by decide +kernel) rfl h.1 ?_
  replace h := h.2
  refine tq_s_i2c (by decide +kernel) ?_
  refine tq_s_aload_n (kk := 0) (by decide +kernel) rfl ?_
  refine tq_s_iload (i := 5) (by decide +kernel) rfl ?_
  refine tq_k_ic (n := 2) (v := (2 : Int32)) (by decide +kernel) kc_2 ?_
  refine tq_s_iadd (by decide +kernel) ?_
  refine tq_s_caload (b := 902) (n := K.1) (f := K.2) (by decide +kernel) rfl h.1 ?_
  replace h := h.2
  refine tq_callV (as := [.int ((Int32.toUInt32 (K.2 (Int32.toNatClampNeg (a5 + (1 : Int32))))) % 65536).toInt32, .int (K.2 (Int32.toNatClampNeg (a5 + (2 : Int32))))]) (st := []) (d1 := 2) (x1 := 0) (x2 := x) (by decide +kernel) ln_13_163 mf_X12_form rfl sh_51 rfl (by decide) np_X12_form rfl (Nat.le_of_ble_eq_true rfl) (by decide) (Nat.zero_add _).symm (tq_M_mono (am_X12_form h) ?_)
  refine tq_wi_e (fun r104 z103 h => ?_)
  refine tq_s_istore (i := 7) (L9 := [.ref 902, .ref 0, .ref 51, .ref 87, .ref 88, .int a5, .int r102, .int r104, .null]) (by decide +kernel) (by decide) rfl ?_
  refine tq_s_aload_n (kk := 2) (by decide +kernel) rfl ?_
  refine tq_callV (as := []) (st := []) (d1 := 0) (x1 := 0) (x2 := x) (by decide +kernel) ln_13_157 mf_X12_thrown rfl sh_51 rfl (by decide) np_X12_thrown rfl (Nat.le_of_ble_eq_true rfl) (by decide) (Nat.zero_add _).symm (tq_M_mono (am_X12_thrown h) ?_)
  refine tq_wi_e (fun r106 z105 h => ?_)
  refine tq_s_iload (i := 6) (by decide +kernel) rfl ?_
  refine tq_icmp_eq (off := 5) (tgt := 362) (by decide +kernel) (by decide +kernel) (fun hc => ?_) (fun hc => ?_)
  · replace h := h.1 hc
    refine tq_s_iload (i := 6) (by decide +kernel) rfl ?_
    refine tq_if_ne (off := 15) (tgt := 379) (by decide +kernel) (by decide +kernel) (fun hc => ?_) (fun hc => ?_)
    · replace h := h.1 hc
      exact tq_to (tq_lk1 (tq_lk1 (tq_lk1 (tq_lk1 (tq_lk1 (tq_lk1 (tq_ld1 (tq_ld1 (tq_lk1 tq_l0))))))))) (ac_law_379 hB28 h)
    · replace h := h.2 hc
      refine tq_s_aload_n (kk := 3) (by decide +kernel) rfl ?_
      refine tq_k_ic (n := 0) (v := (0 : Int32)) (by decide +kernel) kc_0 ?_
      refine tq_s_lald (by decide +kernel) sh_87 vi_0_1 ?_
      refine tq_s_iload (i := 7) (by decide +kernel) rfl ?_
      refine tq_s_i2l (by decide +kernel) ?_
      refine tq_lcmp_eq (off := 5) (tgt := 379) (by decide +kernel) (by decide +kernel) (by decide +kernel) (fun hc => ?_) (fun hc => ?_)
      · replace h := h.1 hc
        exact tq_to (tq_lk1 (tq_lk1 (tq_lk1 (tq_lk1 (tq_lk1 (tq_lk1 (tq_ld1 (tq_ld1 (tq_lk1 tq_l0))))))))) (ac_law_379 hB28 h)
      · replace h := h.2 hc
        refine tq_k_ic (n := 0) (v := (0 : Int32)) (by decide +kernel) kc_0 ?_
        exact tq_ret_z (st := []) (ty := .boolean) (by decide +kernel) (by decide +kernel) rfl h
  · replace h := h.2 hc
    refine tq_k_ic (n := 0) (v := (0 : Int32)) (by decide +kernel) kc_0 ?_
    exact tq_ret_z (st := []) (ty := .boolean) (by decide +kernel) (by decide +kernel) rfl h
def wc_law_309 (K : Nat × (Nat → Int32)) (B28 : Int32 → tq_S → Prop) (Q : tq_O → tq_S → Prop) (a5 : Int32) (z : tq_S) : Prop := wc_law_2748 K B28 Q a5 z
theorem ac_law_309 {K : Nat × (Nat → Int32)} {x : Nat} {Q : tq_O → tq_S → Prop} {B28 : Int32 → tq_S → Prop} {a5 : Int32} {z : tq_S} (hB28 : ∀ (b5 : Int32) (z : tq_S), B28 b5 z → tq_T K 93 x mm_law 28 [.ref 902, .ref 0, .ref 51, .ref 87, .ref 88, .int b5, .null, .null, .null] [] z Q) (h : wc_law_309 K B28 Q a5 z) : tq_T K 93 x mm_law 309 [.ref 902, .ref 0, .ref 51, .ref 87, .ref 88, .int a5, .null, .null, .null] [] z Q := by
  unfold wc_law_309 at h
  refine tq_s_goto (off := 2439) (tgt := 2748) (by decide +kernel) (by decide +kernel) ?_
  exact ac_law_2748 hB28 h
def wc_law_244 (K : Nat × (Nat → Int32)) (B28 : Int32 → tq_S → Prop) (Q : tq_O → tq_S → Prop) (a5 : Int32) (z : tq_S) : Prop := vp_in (a5 + (1 : Int32)) K.1 ∧ vp_in (a5 + (2 : Int32)) K.1 ∧ wm_L_board (K.2 (Int32.toNatClampNeg (a5 + (1 : Int32)))) (K.2 (Int32.toNatClampNeg (a5 + (2 : Int32)))) z (tq_wi fun r102 z101 => vp_in (a5 + (1 : Int32)) K.1 ∧ vp_in (a5 + (2 : Int32)) K.1 ∧ wm_X12_board (K.2 (Int32.toNatClampNeg (a5 + (1 : Int32)))) (K.2 (Int32.toNatClampNeg (a5 + (2 : Int32)))) z101 (tq_wi fun r104 z103 => wm_X12_thrown z103 (tq_wi fun r106 z105 => ((r106 = r102 → ((¬ r102 = 0 → wc_law_309 K B28 Q a5 z105) ∧ (r102 = 0 → (((tq_al z105 87 (Int32.toNatClampNeg (0 : Int32))) = (Int32.toInt64 r104) → wc_law_309 K B28 Q a5 z105) ∧ (¬ (tq_al z105 87 (Int32.toNatClampNeg (0 : Int32))) = (Int32.toInt64 r104) → Q (.inl (some (.int (0 : Int32)))) z105))))) ∧ (¬ r106 = r102 → Q (.inl (some (.int (0 : Int32)))) z105)))))
theorem ac_law_244 {K : Nat × (Nat → Int32)} {x : Nat} {Q : tq_O → tq_S → Prop} {B28 : Int32 → tq_S → Prop} {a5 : Int32} {z : tq_S} (hB28 : ∀ (b5 : Int32) (z : tq_S), B28 b5 z → tq_T K 93 x mm_law 28 [.ref 902, .ref 0, .ref 51, .ref 87, .ref 88, .int b5, .null, .null, .null] [] z Q) (h : wc_law_244 K B28 Q a5 z) : tq_T K 93 (x + 1) mm_law 244 [.ref 902, .ref 0, .ref 51, .ref 87, .ref 88, .int a5, .null, .null, .null] [] z Q := by
  unfold wc_law_244 at h
  refine tq_s_aload_n (kk := 1) (by decide +kernel) rfl ?_
  refine tq_s_aload_n (kk := 0) (by decide +kernel) rfl ?_
  refine tq_s_iload (i := 5) (by decide +kernel) rfl ?_
  refine tq_k_ic (n := 1) (v := (1 : Int32)) (by decide +kernel) kc_1 ?_
  refine tq_s_iadd (by decide +kernel) ?_
  refine tq_s_caload (b := 902) (n := K.1) (f := K.2) (by decide +kernel) rfl h.1 ?_
  replace h := h.2
  refine tq_s_aload_n (kk := 0) (by decide +kernel) rfl ?_
  refine tq_s_iload (i := 5) (by decide +kernel) rfl ?_
  refine tq_k_ic (n := 2) (v := (2 : Int32)) (by decide +kernel) kc_2 ?_
  refine tq_s_iadd (by decide +kernel) ?_
  refine tq_s_caload (b := 902) (n := K.1) (f := K.2) (by decide +kernel) rfl h.1 ?_
  replace h := h.2
  refine tq_s_aload_n (kk := 3) (by decide +kernel) rfl ?_
  refine tq_callSH (as := [.ref 0, .int (K.2 (Int32.toNatClampNeg (a5 + (1 : Int32)))), .int (K.2 (Int32.toNatClampNeg (a5 + (2 : Int32)))), .ref 87]) (st := []) (d1 := 3) (x1 := 1) (x2 := x) (by decide +kernel) ln_13_151 mf_L_board rfl (by decide) np_L_board rfl (Nat.le_of_ble_eq_true rfl) (by decide) (Nat.add_comm _ _) (tq_M_mono (am_L_board (x := 0) h) ?_)
  refine tq_wi_e (fun r102 z101 h => ?_)
  refine tq_s_istore (i := 6) (L9 := [.ref 902, .ref 0, .ref 51, .ref 87, .ref 88, .int a5, .int r102, .null, .null]) (by decide +kernel) (by decide) rfl ?_
  refine tq_s_aload_n (kk := 2) (by decide +kernel) rfl ?_
  refine tq_s_aload_n (kk := 0) (by decide +kernel) rfl ?_
  refine tq_s_iload (i := 5) (by decide +kernel) rfl ?_
  refine tq_k_ic (n := 1) (v := (1 : Int32)) (by decide +kernel) kc_1 ?_
  refine tq_s_iadd (by decide +kernel) ?_
  refine tq_s_caload (b := 902) (n := K.1) (f := K.2) (by decide +kernel) rfl h.1 ?_
  replace h := h.2
  refine tq_s_aload_n (kk := 0) (by decide +kernel) rfl ?_
  refine tq_s_iload (i := 5) (by decide +kernel) rfl ?_
  refine tq_k_ic (n := 2) (v := (2 : Int32)) (by decide +kernel) kc_2 ?_
  refine tq_s_iadd (by decide +kernel) ?_
  refine tq_s_caload (b := 902) (n := K.1) (f := K.2) (by decide +kernel) rfl h.1 ?_
  replace h := h.2
  refine tq_callV (as := [.int (K.2 (Int32.toNatClampNeg (a5 + (1 : Int32)))), .int (K.2 (Int32.toNatClampNeg (a5 + (2 : Int32))))]) (st := []) (d1 := 2) (x1 := 0) (x2 := x) (by decide +kernel) ln_13_156 mf_X12_board rfl sh_51 rfl (by decide) np_X12_board rfl (Nat.le_of_ble_eq_true rfl) (by decide) (Nat.zero_add _).symm (tq_M_mono (am_X12_board h) ?_)
  refine tq_wi_e (fun r104 z103 h => ?_)
  refine tq_s_istore (i := 7) (L9 := [.ref 902, .ref 0, .ref 51, .ref 87, .ref 88, .int a5, .int r102, .int r104, .null]) (by decide +kernel) (by decide) rfl ?_
  refine tq_s_aload_n (kk := 2) (by decide +kernel) rfl ?_
  refine tq_callV (as := []) (st := []) (d1 := 0) (x1 := 0) (x2 := x) (by decide +kernel) ln_13_157 mf_X12_thrown rfl sh_51 rfl (by decide) np_X12_thrown rfl (Nat.le_of_ble_eq_true rfl) (by decide) (Nat.zero_add _).symm (tq_M_mono (am_X12_thrown h) ?_)
  refine tq_wi_e (fun r106 z105 h => ?_)
  refine tq_s_iload (i := 6) (by decide +kernel) rfl ?_
  refine tq_icmp_eq (off := 5) (tgt := 292) (by decide +kernel) (by decide +kernel) (fun hc => ?_) (fun hc => ?_)
  · replace h := h.1 hc
    refine tq_s_iload (i := 6) (by decide +kernel) rfl ?_
    refine tq_if_ne (off := 15) (tgt := 309) (by decide +kernel) (by decide +kernel) (fun hc => ?_) (fun hc => ?_)
    · replace h := h.1 hc
      exact tq_to (tq_lk1 (tq_lk1 (tq_lk1 (tq_lk1 (tq_lk1 (tq_lk1 (tq_ld1 (tq_ld1 (tq_lk1 tq_l0))))))))) (ac_law_309 hB28 h)
    · replace h := h.2 hc
      refine tq_s_aload_n (kk := 3) (by decide +kernel) rfl ?_
      refine tq_k_ic (n := 0) (v := (0 : Int32)) (by decide +kernel) kc_0 ?_
      refine tq_s_lald (by decide +kernel) sh_87 vi_0_1 ?_
      refine tq_s_iload (i := 7) (by decide +kernel) rfl ?_
      refine tq_s_i2l (by decide +kernel) ?_
      refine tq_lcmp_eq (off := 5) (tgt := 309) (by decide +kernel) (by decide +kernel) (by decide +kernel) (fun hc => ?_) (fun hc => ?_)
      · replace h := h.1 hc
        exact tq_to (tq_lk1 (tq_lk1 (tq_lk1 (tq_lk1 (tq_lk1 (tq_lk1 (tq_ld1 (tq_ld1 (tq_lk1 tq_l0))))))))) (ac_law_309 hB28 h)
      · replace h := h.2 hc
        refine tq_k_ic (n := 0) (v := (0 : Int32)) (by decide +kernel) kc_0 ?_
        exact tq_ret_z (st := []) (ty := .boolean) (by decide +kernel) (by decide +kernel) rfl h
  · replace h := h.2 hc
    refine tq_k_ic (n := 0) (v := (0 : Int32)) (by decide +kernel) kc_0 ?_
    exact tq_ret_z (st := []) (ty := .boolean) (by decide +kernel) (by decide +kernel) rfl h
def wb_law_28 (K : Nat × (Nat → Int32)) (B28 : Int32 → tq_S → Prop) (Q : tq_O → tq_S → Prop) (a5 : Int32) (z : tq_S) : Prop := ((((Int32.ofNat K.1) - (4 : Int32)) < a5 → Q (.inl (some (.int (1 : Int32)))) z) ∧ (¬ ((Int32.ofNat K.1) - (4 : Int32)) < a5 → vp_in a5 K.1 ∧ (((K.2 (Int32.toNatClampNeg a5)) &&& (63 : Int32)) = (0 : Int32) → wc_law_244 K B28 Q a5 z) ∧ (((K.2 (Int32.toNatClampNeg a5)) &&& (63 : Int32)) = (1 : Int32) → wc_law_312 K B28 Q a5 z) ∧ (((K.2 (Int32.toNatClampNeg a5)) &&& (63 : Int32)) = (2 : Int32) → wc_law_382 K B28 Q a5 z) ∧ (((K.2 (Int32.toNatClampNeg a5)) &&& (63 : Int32)) = (3 : Int32) → wc_law_450 K B28 Q a5 z) ∧ (((K.2 (Int32.toNatClampNeg a5)) &&& (63 : Int32)) = (4 : Int32) → wc_law_518 K B28 Q a5 z) ∧ (((K.2 (Int32.toNatClampNeg a5)) &&& (63 : Int32)) = (5 : Int32) → wc_law_597 K B28 Q a5 z) ∧ (((K.2 (Int32.toNatClampNeg a5)) &&& (63 : Int32)) = (6 : Int32) → wc_law_655 K B28 Q a5 z) ∧ (((K.2 (Int32.toNatClampNeg a5)) &&& (63 : Int32)) = (7 : Int32) → wc_law_692 K B28 Q a5 z) ∧ (((K.2 (Int32.toNatClampNeg a5)) &&& (63 : Int32)) = (8 : Int32) → wc_law_705 K B28 Q a5 z) ∧ (((K.2 (Int32.toNatClampNeg a5)) &&& (63 : Int32)) = (9 : Int32) → wc_law_718 K B28 Q a5 z) ∧ (((K.2 (Int32.toNatClampNeg a5)) &&& (63 : Int32)) = (10 : Int32) → wc_law_731 K B28 Q a5 z) ∧ (((K.2 (Int32.toNatClampNeg a5)) &&& (63 : Int32)) = (11 : Int32) → wc_law_775 K B28 Q a5 z) ∧ (((K.2 (Int32.toNatClampNeg a5)) &&& (63 : Int32)) = (12 : Int32) → wc_law_871 K B28 Q a5 z) ∧ (((K.2 (Int32.toNatClampNeg a5)) &&& (63 : Int32)) = (13 : Int32) → wc_law_927 K B28 Q a5 z) ∧ (((K.2 (Int32.toNatClampNeg a5)) &&& (63 : Int32)) = (14 : Int32) → wc_law_1015 K B28 Q a5 z) ∧ (((K.2 (Int32.toNatClampNeg a5)) &&& (63 : Int32)) = (15 : Int32) → wc_law_1066 K B28 Q a5 z) ∧ (((K.2 (Int32.toNatClampNeg a5)) &&& (63 : Int32)) = (16 : Int32) → wc_law_1117 K B28 Q a5 z) ∧ (((K.2 (Int32.toNatClampNeg a5)) &&& (63 : Int32)) = (17 : Int32) → wc_law_1161 K B28 Q a5 z) ∧ (((K.2 (Int32.toNatClampNeg a5)) &&& (63 : Int32)) = (18 : Int32) → wc_law_1229 K B28 Q a5 z) ∧ (((K.2 (Int32.toNatClampNeg a5)) &&& (63 : Int32)) = (19 : Int32) → wc_law_1273 K B28 Q a5 z) ∧ (((K.2 (Int32.toNatClampNeg a5)) &&& (63 : Int32)) = (20 : Int32) → wc_law_1329 K B28 Q a5 z) ∧ (((K.2 (Int32.toNatClampNeg a5)) &&& (63 : Int32)) = (21 : Int32) → wc_law_1373 K B28 Q a5 z) ∧ (((K.2 (Int32.toNatClampNeg a5)) &&& (63 : Int32)) = (22 : Int32) → wc_law_1417 K B28 Q a5 z) ∧ (((K.2 (Int32.toNatClampNeg a5)) &&& (63 : Int32)) = (23 : Int32) → wc_law_1461 K B28 Q a5 z) ∧ (((K.2 (Int32.toNatClampNeg a5)) &&& (63 : Int32)) = (24 : Int32) → wc_law_1529 K B28 Q a5 z) ∧ (((K.2 (Int32.toNatClampNeg a5)) &&& (63 : Int32)) = (25 : Int32) → wc_law_1573 K B28 Q a5 z) ∧ (((K.2 (Int32.toNatClampNeg a5)) &&& (63 : Int32)) = (26 : Int32) → wc_law_1586 K B28 Q a5 z) ∧ (((K.2 (Int32.toNatClampNeg a5)) &&& (63 : Int32)) = (27 : Int32) → wc_law_1654 K B28 Q a5 z) ∧ (((K.2 (Int32.toNatClampNeg a5)) &&& (63 : Int32)) = (28 : Int32) → wc_law_1712 K B28 Q a5 z) ∧ (((K.2 (Int32.toNatClampNeg a5)) &&& (63 : Int32)) = (29 : Int32) → wc_law_1780 K B28 Q a5 z) ∧ (((K.2 (Int32.toNatClampNeg a5)) &&& (63 : Int32)) = (30 : Int32) → wc_law_1892 K B28 Q a5 z) ∧ (((K.2 (Int32.toNatClampNeg a5)) &&& (63 : Int32)) = (31 : Int32) → wc_law_1905 K B28 Q a5 z) ∧ (((K.2 (Int32.toNatClampNeg a5)) &&& (63 : Int32)) = (32 : Int32) → wc_law_1949 K B28 Q a5 z) ∧ (((K.2 (Int32.toNatClampNeg a5)) &&& (63 : Int32)) = (33 : Int32) → wc_law_1993 K B28 Q a5 z) ∧ (((K.2 (Int32.toNatClampNeg a5)) &&& (63 : Int32)) = (34 : Int32) → wc_law_2073 K B28 Q a5 z) ∧ (((K.2 (Int32.toNatClampNeg a5)) &&& (63 : Int32)) = (35 : Int32) → wc_law_2141 K B28 Q a5 z) ∧ (((K.2 (Int32.toNatClampNeg a5)) &&& (63 : Int32)) = (36 : Int32) → wc_law_2197 K B28 Q a5 z) ∧ (((K.2 (Int32.toNatClampNeg a5)) &&& (63 : Int32)) = (37 : Int32) → wc_law_2265 K B28 Q a5 z) ∧ (((K.2 (Int32.toNatClampNeg a5)) &&& (63 : Int32)) = (38 : Int32) → wc_law_2345 K B28 Q a5 z) ∧ (((K.2 (Int32.toNatClampNeg a5)) &&& (63 : Int32)) = (39 : Int32) → wc_law_2425 K B28 Q a5 z) ∧ (((K.2 (Int32.toNatClampNeg a5)) &&& (63 : Int32)) = (40 : Int32) → wc_law_2481 K B28 Q a5 z) ∧ (((K.2 (Int32.toNatClampNeg a5)) &&& (63 : Int32)) = (41 : Int32) → wc_law_2494 K B28 Q a5 z) ∧ (((K.2 (Int32.toNatClampNeg a5)) &&& (63 : Int32)) = (42 : Int32) → wc_law_2538 K B28 Q a5 z) ∧ (((K.2 (Int32.toNatClampNeg a5)) &&& (63 : Int32)) = (43 : Int32) → wc_law_2656 K B28 Q a5 z) ∧ (((K.2 (Int32.toNatClampNeg a5)) &&& (63 : Int32)) = (44 : Int32) → wc_law_2721 K B28 Q a5 z) ∧ (((K.2 (Int32.toNatClampNeg a5)) &&& (63 : Int32)) = (45 : Int32) → wc_law_2735 K B28 Q a5 z) ∧ wc_law_2748 K B28 Q a5 z))
theorem ab_law_28 {K : Nat × (Nat → Int32)} {x : Nat} {Q : tq_O → tq_S → Prop} {B28 : Int32 → tq_S → Prop} {a5 : Int32} {z : tq_S} (hB28 : ∀ (b5 : Int32) (z : tq_S), B28 b5 z → tq_T K 93 x mm_law 28 [.ref 902, .ref 0, .ref 51, .ref 87, .ref 88, .int b5, .null, .null, .null] [] z Q) (h : wb_law_28 K B28 Q a5 z) : tq_T K 93 (x + 1) mm_law 28 [.ref 902, .ref 0, .ref 51, .ref 87, .ref 88, .int a5, .null, .null, .null] [] z Q := by
  unfold wb_law_28 at h
  refine tq_s_iload (i := 5) (by decide +kernel) rfl ?_
  refine tq_s_aload_n (kk := 0) (by decide +kernel) rfl ?_
  refine tq_s_calen (b := 902) (n := K.1) (f := K.2) (by decide +kernel) rfl ?_
  refine tq_k_ic (n := 4) (v := (4 : Int32)) (by decide +kernel) kc_4 ?_
  refine tq_s_isub (by decide +kernel) ?_
  refine tq_icmp_gt (off := 2720) (tgt := 2754) (by decide +kernel) (by decide +kernel) (fun hc => ?_) (fun hc => ?_)
  · replace h := h.1 hc
    refine tq_k_ic (n := 1) (v := (1 : Int32)) (by decide +kernel) kc_1 ?_
    exact tq_ret_z (st := []) (ty := .boolean) (by decide +kernel) (by decide +kernel) rfl h
  · replace h := h.2 hc
    refine tq_s_aload_n (kk := 0) (by decide +kernel) rfl ?_
    refine tq_s_iload (i := 5) (by decide +kernel) rfl ?_
    refine tq_s_caload (b := 902) (n := K.1) (f := K.2) (by decide +kernel) rfl h.1 ?_
    replace h := h.2
    refine tq_k_bi (n := 63) (v := (63 : Int32)) (by decide +kernel) kb_63 ?_
    refine tq_s_iand (by decide +kernel) ?_
    by_cases e0 : ((K.2 (Int32.toNatClampNeg a5)) &&& (63 : Int32)) = (0 : Int32)
    · refine tq_tsw_in (n := 0) (tgt := 244) tsw_law e0 (by decide +kernel) (by decide +kernel) (by decide +kernel) ?_
      replace h := h.1 e0
      exact ac_law_244 hB28 h
    replace h := h.2
    by_cases e1 : ((K.2 (Int32.toNatClampNeg a5)) &&& (63 : Int32)) = (1 : Int32)
    · refine tq_tsw_in (n := 1) (tgt := 312) tsw_law e1 (by decide +kernel) (by decide +kernel) (by decide +kernel) ?_
      replace h := h.1 e1
      exact ac_law_312 hB28 h
    replace h := h.2
    by_cases e2 : ((K.2 (Int32.toNatClampNeg a5)) &&& (63 : Int32)) = (2 : Int32)
    · refine tq_tsw_in (n := 2) (tgt := 382) tsw_law e2 (by decide +kernel) (by decide +kernel) (by decide +kernel) ?_
      replace h := h.1 e2
      exact ac_law_382 hB28 h
    replace h := h.2
    by_cases e3 : ((K.2 (Int32.toNatClampNeg a5)) &&& (63 : Int32)) = (3 : Int32)
    · refine tq_tsw_in (n := 3) (tgt := 450) tsw_law e3 (by decide +kernel) (by decide +kernel) (by decide +kernel) ?_
      replace h := h.1 e3
      exact ac_law_450 hB28 h
    replace h := h.2
    by_cases e4 : ((K.2 (Int32.toNatClampNeg a5)) &&& (63 : Int32)) = (4 : Int32)
    · refine tq_tsw_in (n := 4) (tgt := 518) tsw_law e4 (by decide +kernel) (by decide +kernel) (by decide +kernel) ?_
      replace h := h.1 e4
      exact ac_law_518 hB28 h
    replace h := h.2
    by_cases e5 : ((K.2 (Int32.toNatClampNeg a5)) &&& (63 : Int32)) = (5 : Int32)
    · refine tq_tsw_in (n := 5) (tgt := 597) tsw_law e5 (by decide +kernel) (by decide +kernel) (by decide +kernel) ?_
      replace h := h.1 e5
      exact ac_law_597 hB28 h
    replace h := h.2
    by_cases e6 : ((K.2 (Int32.toNatClampNeg a5)) &&& (63 : Int32)) = (6 : Int32)
    · refine tq_tsw_in (n := 6) (tgt := 655) tsw_law e6 (by decide +kernel) (by decide +kernel) (by decide +kernel) ?_
      replace h := h.1 e6
      exact ac_law_655 hB28 h
    replace h := h.2
    by_cases e7 : ((K.2 (Int32.toNatClampNeg a5)) &&& (63 : Int32)) = (7 : Int32)
    · refine tq_tsw_in (n := 7) (tgt := 692) tsw_law e7 (by decide +kernel) (by decide +kernel) (by decide +kernel) ?_
      replace h := h.1 e7
      exact ac_law_692 hB28 h
    replace h := h.2
    by_cases e8 : ((K.2 (Int32.toNatClampNeg a5)) &&& (63 : Int32)) = (8 : Int32)
    · refine tq_tsw_in (n := 8) (tgt := 705) tsw_law e8 (by decide +kernel) (by decide +kernel) (by decide +kernel) ?_
      replace h := h.1 e8
      exact ac_law_705 hB28 h
    replace h := h.2
    by_cases e9 : ((K.2 (Int32.toNatClampNeg a5)) &&& (63 : Int32)) = (9 : Int32)
    · refine tq_tsw_in (n := 9) (tgt := 718) tsw_law e9 (by decide +kernel) (by decide +kernel) (by decide +kernel) ?_
      replace h := h.1 e9
      exact ac_law_718 hB28 h
    replace h := h.2
    by_cases e10 : ((K.2 (Int32.toNatClampNeg a5)) &&& (63 : Int32)) = (10 : Int32)
    · refine tq_tsw_in (n := 10) (tgt := 731) tsw_law e10 (by decide +kernel) (by decide +kernel) (by decide +kernel) ?_
      replace h := h.1 e10
      exact ac_law_731 hB28 h
    replace h := h.2
    by_cases e11 : ((K.2 (Int32.toNatClampNeg a5)) &&& (63 : Int32)) = (11 : Int32)
    · refine tq_tsw_in (n := 11) (tgt := 775) tsw_law e11 (by decide +kernel) (by decide +kernel) (by decide +kernel) ?_
      replace h := h.1 e11
      exact ac_law_775 hB28 h
    replace h := h.2
    by_cases e12 : ((K.2 (Int32.toNatClampNeg a5)) &&& (63 : Int32)) = (12 : Int32)
    · refine tq_tsw_in (n := 12) (tgt := 871) tsw_law e12 (by decide +kernel) (by decide +kernel) (by decide +kernel) ?_
      replace h := h.1 e12
      exact ac_law_871 hB28 h
    replace h := h.2
    by_cases e13 : ((K.2 (Int32.toNatClampNeg a5)) &&& (63 : Int32)) = (13 : Int32)
    · refine tq_tsw_in (n := 13) (tgt := 927) tsw_law e13 (by decide +kernel) (by decide +kernel) (by decide +kernel) ?_
      replace h := h.1 e13
      exact ac_law_927 hB28 h
    replace h := h.2
    by_cases e14 : ((K.2 (Int32.toNatClampNeg a5)) &&& (63 : Int32)) = (14 : Int32)
    · refine tq_tsw_in (n := 14) (tgt := 1015) tsw_law e14 (by decide +kernel) (by decide +kernel) (by decide +kernel) ?_
      replace h := h.1 e14
      exact ac_law_1015 hB28 h
    replace h := h.2
    by_cases e15 : ((K.2 (Int32.toNatClampNeg a5)) &&& (63 : Int32)) = (15 : Int32)
    · refine tq_tsw_in (n := 15) (tgt := 1066) tsw_law e15 (by decide +kernel) (by decide +kernel) (by decide +kernel) ?_
      replace h := h.1 e15
      exact ac_law_1066 hB28 h
    replace h := h.2
    by_cases e16 : ((K.2 (Int32.toNatClampNeg a5)) &&& (63 : Int32)) = (16 : Int32)
    · refine tq_tsw_in (n := 16) (tgt := 1117) tsw_law e16 (by decide +kernel) (by decide +kernel) (by decide +kernel) ?_
      replace h := h.1 e16
      exact ac_law_1117 hB28 h
    replace h := h.2
    by_cases e17 : ((K.2 (Int32.toNatClampNeg a5)) &&& (63 : Int32)) = (17 : Int32)
    · refine tq_tsw_in (n := 17) (tgt := 1161) tsw_law e17 (by decide +kernel) (by decide +kernel) (by decide +kernel) ?_
      replace h := h.1 e17
      exact ac_law_1161 hB28 h
    replace h := h.2
    by_cases e18 : ((K.2 (Int32.toNatClampNeg a5)) &&& (63 : Int32)) = (18 : Int32)
    · refine tq_tsw_in (n := 18) (tgt := 1229) tsw_law e18 (by decide +kernel) (by decide +kernel) (by decide +kernel) ?_
      replace h := h.1 e18
      exact ac_law_1229 hB28 h
    replace h := h.2
    by_cases e19 : ((K.2 (Int32.toNatClampNeg a5)) &&& (63 : Int32)) = (19 : Int32)
    · refine tq_tsw_in (n := 19) (tgt := 1273) tsw_law e19 (by decide +kernel) (by decide +kernel) (by decide +kernel) ?_
      replace h := h.1 e19
      exact ac_law_1273 hB28 h
    replace h := h.2
    by_cases e20 : ((K.2 (Int32.toNatClampNeg a5)) &&& (63 : Int32)) = (20 : Int32)
    · refine tq_tsw_in (n := 20) (tgt := 1329) tsw_law e20 (by decide +kernel) (by decide +kernel) (by decide +kernel) ?_
      replace h := h.1 e20
      exact ac_law_1329 hB28 h
    replace h := h.2
    by_cases e21 : ((K.2 (Int32.toNatClampNeg a5)) &&& (63 : Int32)) = (21 : Int32)
    · refine tq_tsw_in (n := 21) (tgt := 1373) tsw_law e21 (by decide +kernel) (by decide +kernel) (by decide +kernel) ?_
      replace h := h.1 e21
      exact ac_law_1373 hB28 h
    replace h := h.2
    by_cases e22 : ((K.2 (Int32.toNatClampNeg a5)) &&& (63 : Int32)) = (22 : Int32)
    · refine tq_tsw_in (n := 22) (tgt := 1417) tsw_law e22 (by decide +kernel) (by decide +kernel) (by decide +kernel) ?_
      replace h := h.1 e22
      exact ac_law_1417 hB28 h
    replace h := h.2
    by_cases e23 : ((K.2 (Int32.toNatClampNeg a5)) &&& (63 : Int32)) = (23 : Int32)
    · refine tq_tsw_in (n := 23) (tgt := 1461) tsw_law e23 (by decide +kernel) (by decide +kernel) (by decide +kernel) ?_
      replace h := h.1 e23
      exact ac_law_1461 hB28 h
    replace h := h.2
    by_cases e24 : ((K.2 (Int32.toNatClampNeg a5)) &&& (63 : Int32)) = (24 : Int32)
    · refine tq_tsw_in (n := 24) (tgt := 1529) tsw_law e24 (by decide +kernel) (by decide +kernel) (by decide +kernel) ?_
      replace h := h.1 e24
      exact ac_law_1529 hB28 h
    replace h := h.2
    by_cases e25 : ((K.2 (Int32.toNatClampNeg a5)) &&& (63 : Int32)) = (25 : Int32)
    · refine tq_tsw_in (n := 25) (tgt := 1573) tsw_law e25 (by decide +kernel) (by decide +kernel) (by decide +kernel) ?_
      replace h := h.1 e25
      exact ac_law_1573 hB28 h
    replace h := h.2
    by_cases e26 : ((K.2 (Int32.toNatClampNeg a5)) &&& (63 : Int32)) = (26 : Int32)
    · refine tq_tsw_in (n := 26) (tgt := 1586) tsw_law e26 (by decide +kernel) (by decide +kernel) (by decide +kernel) ?_
      replace h := h.1 e26
      exact ac_law_1586 hB28 h
    replace h := h.2
    by_cases e27 : ((K.2 (Int32.toNatClampNeg a5)) &&& (63 : Int32)) = (27 : Int32)
    · refine tq_tsw_in (n := 27) (tgt := 1654) tsw_law e27 (by decide +kernel) (by decide +kernel) (by decide +kernel) ?_
      replace h := h.1 e27
      exact ac_law_1654 hB28 h
    replace h := h.2
    by_cases e28 : ((K.2 (Int32.toNatClampNeg a5)) &&& (63 : Int32)) = (28 : Int32)
    · refine tq_tsw_in (n := 28) (tgt := 1712) tsw_law e28 (by decide +kernel) (by decide +kernel) (by decide +kernel) ?_
      replace h := h.1 e28
      exact ac_law_1712 hB28 h
    replace h := h.2
    by_cases e29 : ((K.2 (Int32.toNatClampNeg a5)) &&& (63 : Int32)) = (29 : Int32)
    · refine tq_tsw_in (n := 29) (tgt := 1780) tsw_law e29 (by decide +kernel) (by decide +kernel) (by decide +kernel) ?_
      replace h := h.1 e29
      exact ac_law_1780 hB28 h
    replace h := h.2
    by_cases e30 : ((K.2 (Int32.toNatClampNeg a5)) &&& (63 : Int32)) = (30 : Int32)
    · refine tq_tsw_in (n := 30) (tgt := 1892) tsw_law e30 (by decide +kernel) (by decide +kernel) (by decide +kernel) ?_
      replace h := h.1 e30
      exact ac_law_1892 hB28 h
    replace h := h.2
    by_cases e31 : ((K.2 (Int32.toNatClampNeg a5)) &&& (63 : Int32)) = (31 : Int32)
    · refine tq_tsw_in (n := 31) (tgt := 1905) tsw_law e31 (by decide +kernel) (by decide +kernel) (by decide +kernel) ?_
      replace h := h.1 e31
      exact ac_law_1905 hB28 h
    replace h := h.2
    by_cases e32 : ((K.2 (Int32.toNatClampNeg a5)) &&& (63 : Int32)) = (32 : Int32)
    · refine tq_tsw_in (n := 32) (tgt := 1949) tsw_law e32 (by decide +kernel) (by decide +kernel) (by decide +kernel) ?_
      replace h := h.1 e32
      exact ac_law_1949 hB28 h
    replace h := h.2
    by_cases e33 : ((K.2 (Int32.toNatClampNeg a5)) &&& (63 : Int32)) = (33 : Int32)
    · refine tq_tsw_in (n := 33) (tgt := 1993) tsw_law e33 (by decide +kernel) (by decide +kernel) (by decide +kernel) ?_
      replace h := h.1 e33
      exact ac_law_1993 hB28 h
    replace h := h.2
    by_cases e34 : ((K.2 (Int32.toNatClampNeg a5)) &&& (63 : Int32)) = (34 : Int32)
    · refine tq_tsw_in (n := 34) (tgt := 2073) tsw_law e34 (by decide +kernel) (by decide +kernel) (by decide +kernel) ?_
      replace h := h.1 e34
      exact ac_law_2073 hB28 h
    replace h := h.2
    by_cases e35 : ((K.2 (Int32.toNatClampNeg a5)) &&& (63 : Int32)) = (35 : Int32)
    · refine tq_tsw_in (n := 35) (tgt := 2141) tsw_law e35 (by decide +kernel) (by decide +kernel) (by decide +kernel) ?_
      replace h := h.1 e35
      exact ac_law_2141 hB28 h
    replace h := h.2
    by_cases e36 : ((K.2 (Int32.toNatClampNeg a5)) &&& (63 : Int32)) = (36 : Int32)
    · refine tq_tsw_in (n := 36) (tgt := 2197) tsw_law e36 (by decide +kernel) (by decide +kernel) (by decide +kernel) ?_
      replace h := h.1 e36
      exact ac_law_2197 hB28 h
    replace h := h.2
    by_cases e37 : ((K.2 (Int32.toNatClampNeg a5)) &&& (63 : Int32)) = (37 : Int32)
    · refine tq_tsw_in (n := 37) (tgt := 2265) tsw_law e37 (by decide +kernel) (by decide +kernel) (by decide +kernel) ?_
      replace h := h.1 e37
      exact ac_law_2265 hB28 h
    replace h := h.2
    by_cases e38 : ((K.2 (Int32.toNatClampNeg a5)) &&& (63 : Int32)) = (38 : Int32)
    · refine tq_tsw_in (n := 38) (tgt := 2345) tsw_law e38 (by decide +kernel) (by decide +kernel) (by decide +kernel) ?_
      replace h := h.1 e38
      exact ac_law_2345 hB28 h
    replace h := h.2
    by_cases e39 : ((K.2 (Int32.toNatClampNeg a5)) &&& (63 : Int32)) = (39 : Int32)
    · refine tq_tsw_in (n := 39) (tgt := 2425) tsw_law e39 (by decide +kernel) (by decide +kernel) (by decide +kernel) ?_
      replace h := h.1 e39
      exact ac_law_2425 hB28 h
    replace h := h.2
    by_cases e40 : ((K.2 (Int32.toNatClampNeg a5)) &&& (63 : Int32)) = (40 : Int32)
    · refine tq_tsw_in (n := 40) (tgt := 2481) tsw_law e40 (by decide +kernel) (by decide +kernel) (by decide +kernel) ?_
      replace h := h.1 e40
      exact ac_law_2481 hB28 h
    replace h := h.2
    by_cases e41 : ((K.2 (Int32.toNatClampNeg a5)) &&& (63 : Int32)) = (41 : Int32)
    · refine tq_tsw_in (n := 41) (tgt := 2494) tsw_law e41 (by decide +kernel) (by decide +kernel) (by decide +kernel) ?_
      replace h := h.1 e41
      exact ac_law_2494 hB28 h
    replace h := h.2
    by_cases e42 : ((K.2 (Int32.toNatClampNeg a5)) &&& (63 : Int32)) = (42 : Int32)
    · refine tq_tsw_in (n := 42) (tgt := 2538) tsw_law e42 (by decide +kernel) (by decide +kernel) (by decide +kernel) ?_
      replace h := h.1 e42
      exact ac_law_2538 hB28 h
    replace h := h.2
    by_cases e43 : ((K.2 (Int32.toNatClampNeg a5)) &&& (63 : Int32)) = (43 : Int32)
    · refine tq_tsw_in (n := 43) (tgt := 2656) tsw_law e43 (by decide +kernel) (by decide +kernel) (by decide +kernel) ?_
      replace h := h.1 e43
      exact ac_law_2656 hB28 h
    replace h := h.2
    by_cases e44 : ((K.2 (Int32.toNatClampNeg a5)) &&& (63 : Int32)) = (44 : Int32)
    · refine tq_tsw_in (n := 44) (tgt := 2721) tsw_law e44 (by decide +kernel) (by decide +kernel) (by decide +kernel) ?_
      replace h := h.1 e44
      exact ac_law_2721 hB28 h
    replace h := h.2
    by_cases e45 : ((K.2 (Int32.toNatClampNeg a5)) &&& (63 : Int32)) = (45 : Int32)
    · refine tq_tsw_in (n := 45) (tgt := 2735) tsw_law e45 (by decide +kernel) (by decide +kernel) (by decide +kernel) ?_
      replace h := h.1 e45
      exact ac_law_2735 hB28 h
    replace h := h.2
    refine tq_tsw_out (N := 46) (tgt := 2748) tsw_law ?_ (by decide +kernel) ?_
    · exact (tq_an1 (tq_an1 (tq_an1 (tq_an1 (tq_an1 (tq_an1 (tq_an1 (tq_an1 (tq_an1 (tq_an1 (tq_an1 (tq_an1 (tq_an1 (tq_an1 (tq_an1 (tq_an1 (tq_an1 (tq_an1 (tq_an1 (tq_an1 (tq_an1 (tq_an1 (tq_an1 (tq_an1 (tq_an1 (tq_an1 (tq_an1 (tq_an1 (tq_an1 (tq_an1 (tq_an1 (tq_an1 (tq_an1 (tq_an1 (tq_an1 (tq_an1 (tq_an1 (tq_an1 (tq_an1 (tq_an1 (tq_an1 (tq_an1 (tq_an1 (tq_an1 (tq_an1 (tq_an1 (tq_an0 _) e0) e1) e2) e3) e4) e5) e6) e7) e8) e9) e10) e11) e12) e13) e14) e15) e16) e17) e18) e19) e20) e21) e22) e23) e24) e25) e26) e27) e28) e29) e30) e31) e32) e33) e34) e35) e36) e37) e38) e39) e40) e41) e42) e43) e44) e45)
    exact tq_Tx (ac_law_2748 hB28 h)
