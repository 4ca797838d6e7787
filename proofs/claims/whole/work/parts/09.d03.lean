def wc_X12_mirrored_44 (Q : tq_O → tq_S → Prop) (a2 : Int64) (z : tq_S) : Prop := wm_X12_moved a2 z (tq_wl fun r102 z101 => Q (.inl (some (.long r102))) z101)
theorem ac_X12_mirrored_44 {K : Nat × (Nat → Int32)} {x : Nat} {Q : tq_O → tq_S → Prop} {a2 : Int64} {z : tq_S} (h : wc_X12_mirrored_44 Q a2 z) : tq_T K 2 x mm_X12_mirrored 44 [.null, .null, .long a2, .null, .null] [] z Q := by
  unfold wc_X12_mirrored_44 at h
  refine tq_s_lload_n (kk := 2) (by decide +kernel) rfl ?_
  refine tq_callS (as := [.long a2]) (st := []) (d1 := 1) (x1 := 0) (x2 := x) (by decide +kernel) ln_12_316 mf_X12_moved rfl (by decide) np_X12_moved rfl (Nat.le_of_ble_eq_true rfl) (by decide) (Nat.zero_add _).symm (tq_M_mono (am_X12_moved h) ?_)
  refine tq_wl_e (fun r102 z101 h => ?_)
  exact tq_ret_l (st := []) (by decide +kernel) rfl h
def wb_X12_mirrored_5 (B5 : Int64 → Int32 → tq_S → Prop) (Q : tq_O → tq_S → Prop) (a0 : Int64) (a2 : Int64) (a4 : Int32) (z : tq_S) : Prop := (((36 : Int32) ≤ a4 → wc_X12_mirrored_44 Q a2 z) ∧ (¬ (36 : Int32) ≤ a4 → ∀ v101 : Int64, v101 = (a2 ||| (((a0 >>> ((Int32.toInt64 a4) &&& 63)) &&& (1 : Int64)) <<< ((Int32.toInt64 ((((6 : Int32) * (a4 / (6 : Int32))) + (5 : Int32)) - (a4 - a4 / (6 : Int32) * (6 : Int32)))) &&& 63))) → ∀ v102 : Int32, v102 = a4 + (1 : Int32) → B5 v101 v102 z))
def wc_X12_mirrored_5 (Q : tq_O → tq_S → Prop) (a0 : Int64) (a2 : Int64) (a4 : Int32) (z : tq_S) : Prop := tq_lp (σ := Int64 × Int32 × tq_S) (fun B s => wb_X12_mirrored_5 (fun b2 b4 z => B (b2, b4, z)) Q a0 s.1 s.2.1 s.2.2) (a2, a4, z)
theorem ab_X12_mirrored_5 {K : Nat × (Nat → Int32)} {x : Nat} {Q : tq_O → tq_S → Prop} {B5 : Int64 → Int32 → tq_S → Prop} {a0 : Int64} {a2 : Int64} {a4 : Int32} {z : tq_S} (hB5 : ∀ (b2 : Int64) (b4 : Int32) (z : tq_S), B5 b2 b4 z → tq_T K 2 x mm_X12_mirrored 5 [.long a0, .null, .long b2, .null, .int b4] [] z Q) (h : wb_X12_mirrored_5 B5 Q a0 a2 a4 z) : tq_T K 2 x mm_X12_mirrored 5 [.long a0, .null, .long a2, .null, .int a4] [] z Q := by
  unfold wb_X12_mirrored_5 at h
  refine tq_s_iload (i := 4) (by decide +kernel) rfl ?_
  refine tq_k_bi (n := 36) (v := (36 : Int32)) (by decide +kernel) kb_36 ?_
  refine tq_icmp_ge (off := 35) (tgt := 44) (by decide +kernel) (by decide +kernel) (fun hc => ?_) (fun hc => ?_)
  · replace h := h.1 hc
    exact tq_to (tq_ld1 (tq_lk1 (tq_lk1 (tq_lk1 (tq_ld1 tq_l0))))) (ac_X12_mirrored_44 h)
  · replace h := h.2 hc
    refine tq_s_lload_n (kk := 2) (by decide +kernel) rfl ?_
    refine tq_s_lload_n (kk := 0) (by decide +kernel) rfl ?_
    refine tq_s_iload (i := 4) (by decide +kernel) rfl ?_
    refine tq_s_lshr (by decide +kernel) ?_
    refine tq_k_lc (n := 1) (v := (1 : Int64)) (by decide +kernel) (by decide +kernel) ?_
    refine tq_s_land (by decide +kernel) ?_
    refine tq_k_bi (n := 6) (v := (6 : Int32)) (by decide +kernel) kb_6 ?_
    refine tq_s_iload (i := 4) (by decide +kernel) rfl ?_
    refine tq_k_bi (n := 6) (v := (6 : Int32)) (by decide +kernel) kb_6 ?_
    refine tq_s_idiv (by decide +kernel) (by decide +kernel) ?_
    refine tq_s_imul (by decide +kernel) ?_
    refine tq_k_ic (n := 5) (v := (5 : Int32)) (by decide +kernel) kc_5 ?_
    refine tq_s_iadd (by decide +kernel) ?_
    refine tq_s_iload (i := 4) (by decide +kernel) rfl ?_
    refine tq_k_bi (n := 6) (v := (6 : Int32)) (by decide +kernel) kb_6 ?_
    refine tq_s_irem (by decide +kernel) (by decide +kernel) ?_
    refine tq_s_isub (by decide +kernel) ?_
    refine tq_s_lshl (by decide +kernel) ?_
    refine tq_s_lor (by decide +kernel) ?_
    refine tq_g_lstore_n (kk := 2) (fun v101 => [.long a0, .null, .long v101, .null, .int a4]) (by decide +kernel) (by decide) (fun _ => rfl) (fun v101 ev101 => ?_)
    replace h := h v101 ev101
    refine tq_g_iinc (i := 4) (fun v102 => [.long a0, .null, .long v101, .null, .int v102]) (by decide +kernel) rfl (1 : Int32) kc_1 (fun _ => rfl) (fun v102 ev102 => ?_)
    replace h := h v102 ev102
    refine tq_s_goto (off := -36) (tgt := 5) (by decide +kernel) (by decide +kernel) ?_
    exact hB5 _ _ _ h
theorem ac_X12_mirrored_5 {K : Nat × (Nat → Int32)} {x : Nat} {Q : tq_O → tq_S → Prop} {a0 : Int64} {a2 : Int64} {a4 : Int32} {z : tq_S} (h : wc_X12_mirrored_5 Q a0 a2 a4 z) : tq_T K 2 x mm_X12_mirrored 5 [.long a0, .null, .long a2, .null, .int a4] [] z Q :=
  tq_lp_T (σ := Int64 × Int32 × tq_S) (s := (a2, a4, z)) (G := fun s => tq_T K 2 x mm_X12_mirrored 5 [.long a0, .null, .long s.1, .null, .int s.2.1] [] s.2.2 Q) (fun B hB s h => ab_X12_mirrored_5 (fun b2 b4 z h => hB (b2, b4, z) h) h) h
def wm_X12_mirrored (a0 : Int64) (z : tq_S) (Q : tq_O → tq_S → Prop) : Prop := wc_X12_mirrored_5 Q a0 (0 : Int64) (0 : Int32) z
theorem am_X12_mirrored {K : Nat × (Nat → Int32)} {x : Nat} {z : tq_S} {Q : tq_O → tq_S → Prop} {a0 : Int64} (h : wm_X12_mirrored a0 z Q) : tq_M K 2 x mm_X12_mirrored [.long a0] z Q := by
  unfold wm_X12_mirrored at h
  refine tq_enter (L := [.long a0, .null, .null, .null, .null]) mf_X12_mirrored.1 rfl rfl (Nat.le_of_ble_eq_true rfl) ?_
  refine tq_k_lc (n := 0) (v := (0 : Int64)) (by decide +kernel) (by decide +kernel) ?_
  refine tq_s_lstore_n (kk := 2) (L9 := [.long a0, .null, .long (0 : Int64), .null, .null]) (by decide +kernel) (by decide) rfl ?_
  refine tq_k_ic (n := 0) (v := (0 : Int32)) (by decide +kernel) kc_0 ?_
  refine tq_s_istore (i := 4) (L9 := [.long a0, .null, .long (0 : Int64), .null, .int (0 : Int32)]) (by decide +kernel) (by decide) rfl ?_
  exact ac_X12_mirrored_5 h
def wc_X12_kind_214 (B97 : Int32 → Int64 → Int32 → tq_S → Prop) (B114 : Int32 → Int64 → Int32 → tq_S → Prop) (Q : tq_O → tq_S → Prop) (a1 : Int32) (a2 : Int32) (a3 : Int32) (a4 : Int32) (a7 : Int32) (a8 : Int32) (s0 : Int64) (z : tq_S) : Prop := ∀ v101 : Int32, v101 = a8 + (1 : Int32) → B114 a4 s0 v101 z
theorem ac_X12_kind_214 {K : Nat × (Nat → Int32)} {x : Nat} {Q : tq_O → tq_S → Prop} {B97 : Int32 → Int64 → Int32 → tq_S → Prop} {B114 : Int32 → Int64 → Int32 → tq_S → Prop} {a1 : Int32} {a2 : Int32} {a3 : Int32} {a4 : Int32} {a7 : Int32} {a8 : Int32} {s0 : Int64} {z : tq_S} (hB97 : ∀ (b4 : Int32) (b5 : Int64) (b7 : Int32) (z : tq_S), B97 b4 b5 b7 z → tq_T K 3 x mm_X12_kind 97 [.ref 51, .int a1, .int a2, .int a3, .int b4, .long b5, .null, .int b7, .null] [] z Q) (hB114 : ∀ (b4 : Int32) (b5 : Int64) (b8 : Int32) (z : tq_S), B114 b4 b5 b8 z → tq_T K 3 x mm_X12_kind 114 [.ref 51, .int a1, .int a2, .int a3, .int b4, .long b5, .null, .int a7, .int b8] [] z Q) (h : wc_X12_kind_214 B97 B114 Q a1 a2 a3 a4 a7 a8 s0 z) : tq_T K 3 x mm_X12_kind 214 [.ref 51, .int a1, .int a2, .int a3, .int a4, .null, .null, .int a7, .int a8] [.long s0] z Q := by
  unfold wc_X12_kind_214 at h
  refine tq_s_lstore (i := 5) (L9 := [.ref 51, .int a1, .int a2, .int a3, .int a4, .long s0, .null, .int a7, .int a8]) (by decide +kernel) (by decide) rfl ?_
  refine tq_g_iinc (i := 8) (fun v101 => [.ref 51, .int a1, .int a2, .int a3, .int a4, .long s0, .null, .int a7, .int v101]) (by decide +kernel) rfl (1 : Int32) kc_1 (fun _ => rfl) (fun v101 ev101 => ?_)
  replace h := h v101 ev101
  refine tq_s_goto (off := -105) (tgt := 114) (by decide +kernel) (by decide +kernel) ?_
  exact hB114 _ _ _ _ h
def wc_X12_kind_200 (B97 : Int32 → Int64 → Int32 → tq_S → Prop) (B114 : Int32 → Int64 → Int32 → tq_S → Prop) (Q : tq_O → tq_S → Prop) (a1 : Int32) (a2 : Int32) (a3 : Int32) (a4 : Int32) (a5 : Int64) (a7 : Int32) (a8 : Int32) (z : tq_S) : Prop := ((a1 = 0 → wc_X12_kind_214 B97 B114 Q a1 a2 a3 a4 a7 a8 a5 z) ∧ (¬ a1 = 0 → wm_X12_turned a5 z (tq_wl fun r102 z101 => wc_X12_kind_214 B97 B114 Q a1 a2 a3 a4 a7 a8 r102 z101)))
theorem ac_X12_kind_200 {K : Nat × (Nat → Int32)} {x : Nat} {Q : tq_O → tq_S → Prop} {B97 : Int32 → Int64 → Int32 → tq_S → Prop} {B114 : Int32 → Int64 → Int32 → tq_S → Prop} {a1 : Int32} {a2 : Int32} {a3 : Int32} {a4 : Int32} {a5 : Int64} {a7 : Int32} {a8 : Int32} {z : tq_S} (hB97 : ∀ (b4 : Int32) (b5 : Int64) (b7 : Int32) (z : tq_S), B97 b4 b5 b7 z → tq_T K 3 x mm_X12_kind 97 [.ref 51, .int a1, .int a2, .int a3, .int b4, .long b5, .null, .int b7, .null] [] z Q) (hB114 : ∀ (b4 : Int32) (b5 : Int64) (b8 : Int32) (z : tq_S), B114 b4 b5 b8 z → tq_T K 3 x mm_X12_kind 114 [.ref 51, .int a1, .int a2, .int a3, .int b4, .long b5, .null, .int a7, .int b8] [] z Q) (h : wc_X12_kind_200 B97 B114 Q a1 a2 a3 a4 a5 a7 a8 z) : tq_T K 3 x mm_X12_kind 200 [.ref 51, .int a1, .int a2, .int a3, .int a4, .long a5, .null, .int a7, .int a8] [] z Q := by
  unfold wc_X12_kind_200 at h
  refine tq_s_iload_n (kk := 1) (by decide +kernel) rfl ?_
  refine tq_if_eq (off := 11) (tgt := 212) (by decide +kernel) (by decide +kernel) (fun hc => ?_) (fun hc => ?_)
  · replace h := h.1 hc
    refine tq_s_lload (i := 5) (by decide +kernel) rfl ?_
    exact tq_to (tq_lk1 (tq_lk1 (tq_lk1 (tq_lk1 (tq_lk1 (tq_ld1 (tq_lk1 (tq_lk1 (tq_lk1 tq_l0))))))))) (ac_X12_kind_214 hB97 hB114 h)
  · replace h := h.2 hc
    refine tq_s_lload (i := 5) (by decide +kernel) rfl ?_
    refine tq_callS (as := [.long a5]) (st := []) (d1 := 2) (x1 := 0) (x2 := x) (by decide +kernel) ln_12_334 mf_X12_turned rfl (by decide) np_X12_turned rfl (Nat.le_of_ble_eq_true rfl) (by decide) (Nat.zero_add _).symm (tq_M_mono (am_X12_turned h) ?_)
    refine tq_wl_e (fun r102 z101 h => ?_)
    refine tq_s_goto (off := 5) (tgt := 214) (by decide +kernel) (by decide +kernel) ?_
    exact tq_to (tq_lk1 (tq_lk1 (tq_lk1 (tq_lk1 (tq_lk1 (tq_ld1 (tq_lk1 (tq_lk1 (tq_lk1 tq_l0))))))))) (ac_X12_kind_214 hB97 hB114 h)
def wc_X12_kind_222 (B97 : Int32 → Int64 → Int32 → tq_S → Prop) (Q : tq_O → tq_S → Prop) (a1 : Int32) (a2 : Int32) (a3 : Int32) (a4 : Int32) (a5 : Int64) (a7 : Int32) (z : tq_S) : Prop := wm_X12_mirrored a5 z (tq_wl fun r102 z101 => ∀ v103 : Int32, v103 = a7 + (1 : Int32) → B97 a4 r102 v103 z101)
theorem ac_X12_kind_222 {K : Nat × (Nat → Int32)} {x : Nat} {Q : tq_O → tq_S → Prop} {B97 : Int32 → Int64 → Int32 → tq_S → Prop} {a1 : Int32} {a2 : Int32} {a3 : Int32} {a4 : Int32} {a5 : Int64} {a7 : Int32} {z : tq_S} (hB97 : ∀ (b4 : Int32) (b5 : Int64) (b7 : Int32) (z : tq_S), B97 b4 b5 b7 z → tq_T K 3 x mm_X12_kind 97 [.ref 51, .int a1, .int a2, .int a3, .int b4, .long b5, .null, .int b7, .null] [] z Q) (h : wc_X12_kind_222 B97 Q a1 a2 a3 a4 a5 a7 z) : tq_T K 3 x mm_X12_kind 222 [.ref 51, .int a1, .int a2, .int a3, .int a4, .long a5, .null, .int a7, .null] [] z Q := by
  unfold wc_X12_kind_222 at h
  refine tq_s_lload (i := 5) (by decide +kernel) rfl ?_
  refine tq_callS (as := [.long a5]) (st := []) (d1 := 2) (x1 := 0) (x2 := x) (by decide +kernel) ln_12_337 mf_X12_mirrored rfl (by decide) np_X12_mirrored rfl (Nat.le_of_ble_eq_true rfl) (by decide) (Nat.zero_add _).symm (tq_M_mono (am_X12_mirrored h) ?_)
  refine tq_wl_e (fun r102 z101 h => ?_)
  refine tq_s_lstore (i := 5) (L9 := [.ref 51, .int a1, .int a2, .int a3, .int a4, .long r102, .null, .int a7, .null]) (by decide +kernel) (by decide) rfl ?_
  refine tq_g_iinc (i := 7) (fun v103 => [.ref 51, .int a1, .int a2, .int a3, .int a4, .long r102, .null, .int v103, .null]) (by decide +kernel) rfl (1 : Int32) kc_1 (fun _ => rfl) (fun v103 ev103 => ?_)
  replace h := h v103 ev103
  refine tq_s_goto (off := -135) (tgt := 97) (by decide +kernel) (by decide +kernel) ?_
  exact hB97 _ _ _ _ h
def wc_X12_kind_125 (B97 : Int32 → Int64 → Int32 → tq_S → Prop) (B114 : Int32 → Int64 → Int32 → tq_S → Prop) (Q : tq_O → tq_S → Prop) (a1 : Int32) (a2 : Int32) (a3 : Int32) (a4 : Int32) (a5 : Int64) (a7 : Int32) (a8 : Int32) (s0 : Int32) (s1 : Int32) (z : tq_S) : Prop := ((s0 ≤ s1 → wc_X12_kind_222 B97 Q a1 a2 a3 a4 a5 a7 z) ∧ (¬ s0 ≤ s1 → wm_X12_isKnown a5 (0 : Int32) (tq_fi z 3290) z (tq_wi fun r102 z101 => ∀ v103 : Int32, v103 = (a4 ||| r102) → wm_X12_isKnown a5 (tq_fi z101 3290) ((tq_fi z101 3290) + (1 : Int32)) z101 (tq_wi fun r105 z104 => ((¬ r105 = 0 → wc_X12_kind_200 B97 B114 Q a1 a2 a3 v103 a5 a7 a8 z104) ∧ (r105 = 0 → vp_in (tq_fi z104 3290) 6 ∧ vp_in (((8 : Int32) * (tq_fi z104 3290)) + (tq_ai z104 68 (Int32.toNatClampNeg (tq_fi z104 3290)))) 48 ∧ ∀ z106 : tq_S, z106 = tq_sal z104 69 (vp_updL (tq_al z104 69) (Int32.toNatClampNeg (((8 : Int32) * (tq_fi z104 3290)) + (tq_ai z104 68 (Int32.toNatClampNeg (tq_fi z104 3290))))) a5) → vp_in (tq_fi z106 3290) 6 ∧ vp_in (tq_fi z106 3290) 6 ∧ ∀ z107 : tq_S, z107 = tq_sai z106 68 (upd (tq_ai z106 68) (Int32.toNatClampNeg (tq_fi z106 3290)) ((tq_ai z106 68 (Int32.toNatClampNeg (tq_fi z106 3290))) + (1 : Int32))) → wc_X12_kind_200 B97 B114 Q a1 a2 a3 v103 a5 a7 a8 z107))))))
theorem ac_X12_kind_125 {K : Nat × (Nat → Int32)} {x : Nat} {Q : tq_O → tq_S → Prop} {B97 : Int32 → Int64 → Int32 → tq_S → Prop} {B114 : Int32 → Int64 → Int32 → tq_S → Prop} {a1 : Int32} {a2 : Int32} {a3 : Int32} {a4 : Int32} {a5 : Int64} {a7 : Int32} {a8 : Int32} {s0 : Int32} {s1 : Int32} {z : tq_S} (hB97 : ∀ (b4 : Int32) (b5 : Int64) (b7 : Int32) (z : tq_S), B97 b4 b5 b7 z → tq_T K 3 x mm_X12_kind 97 [.ref 51, .int a1, .int a2, .int a3, .int b4, .long b5, .null, .int b7, .null] [] z Q) (hB114 : ∀ (b4 : Int32) (b5 : Int64) (b8 : Int32) (z : tq_S), B114 b4 b5 b8 z → tq_T K 3 x mm_X12_kind 114 [.ref 51, .int a1, .int a2, .int a3, .int b4, .long b5, .null, .int a7, .int b8] [] z Q) (h : wc_X12_kind_125 B97 B114 Q a1 a2 a3 a4 a5 a7 a8 s0 s1 z) : tq_T K 3 x mm_X12_kind 125 [.ref 51, .int a1, .int a2, .int a3, .int a4, .long a5, .null, .int a7, .int a8] [.int s0, .int s1] z Q := by
  unfold wc_X12_kind_125 at h
  refine tq_icmp_ge (off := 97) (tgt := 222) (by decide +kernel) (by decide +kernel) (fun hc => ?_) (fun hc => ?_)
  · replace h := h.1 hc
    exact tq_to (tq_lk1 (tq_lk1 (tq_lk1 (tq_lk1 (tq_lk1 (tq_lk1 (tq_lk1 (tq_lk1 (tq_ld1 tq_l0))))))))) (ac_X12_kind_222 hB97 h)
  · replace h := h.2 hc
    refine tq_s_iload (i := 4) (by decide +kernel) rfl ?_
    refine tq_s_aload_n (kk := 0) (by decide +kernel) rfl ?_
    refine tq_s_lload (i := 5) (by decide +kernel) rfl ?_
    refine tq_k_ic (n := 0) (v := (0 : Int32)) (by decide +kernel) kc_0 ?_
    refine tq_s_aload_n (kk := 0) (by decide +kernel) rfl ?_
    refine fg_12_324_51 rfl (by decide +kernel) ?_
    refine tq_callV (as := [.long a5, .int (0 : Int32), .int (tq_fi z 3290)]) (st := [.int a4]) (d1 := 0) (x1 := 0) (x2 := x) (by decide +kernel) ln_12_331 mf_X12_isKnown rfl sh_51 rfl (by decide) np_X12_isKnown rfl (Nat.le_of_ble_eq_true rfl) (by decide) (Nat.zero_add _).symm (tq_M_mono (am_X12_isKnown h) ?_)
    refine tq_wi_e (fun r102 z101 h => ?_)
    refine tq_s_ior (by decide +kernel) ?_
    refine tq_g_istore (i := 4) (fun v103 => [.ref 51, .int a1, .int a2, .int a3, .int v103, .long a5, .null, .int a7, .int a8]) (by decide +kernel) (by decide) (fun _ => rfl) (fun v103 ev103 => ?_)
    replace h := h v103 ev103
    refine tq_s_aload_n (kk := 0) (by decide +kernel) rfl ?_
    refine tq_s_lload (i := 5) (by decide +kernel) rfl ?_
    refine tq_s_aload_n (kk := 0) (by decide +kernel) rfl ?_
    refine fg_12_324_51 rfl (by decide +kernel) ?_
    refine tq_s_aload_n (kk := 0) (by decide +kernel) rfl ?_
    refine fg_12_324_51 rfl (by decide +kernel) ?_
    refine tq_k_ic (n := 1) (v := (1 : Int32)) (by decide +kernel) kc_1 ?_
    refine tq_s_iadd (by decide +kernel) ?_
    refine tq_callV (as := [.long a5, .int (tq_fi z101 3290), .int ((tq_fi z101 3290) + (1 : Int32))]) (st := []) (d1 := 0) (x1 := 0) (x2 := x) (by decide +kernel) ln_12_331 mf_X12_isKnown rfl sh_51 rfl (by decide) np_X12_isKnown rfl (Nat.le_of_ble_eq_true rfl) (by decide) (Nat.zero_add _).symm (tq_M_mono (am_X12_isKnown h) ?_)
    refine tq_wi_e (fun r105 z104 h => ?_)
    refine tq_if_ne (off := 40) (tgt := 200) (by decide +kernel) (by decide +kernel) (fun hc => ?_) (fun hc => ?_)
    · replace h := h.1 hc
      exact ac_X12_kind_200 hB97 hB114 h
    · replace h := h.2 hc
      refine tq_s_aload_n (kk := 0) (by decide +kernel) rfl ?_
      refine fg_12_74_51 rfl (by decide +kernel) ?_
      refine tq_k_bi (n := 8) (v := (8 : Int32)) (by decide +kernel) kb_8 ?_
      refine tq_s_aload_n (kk := 0) (by decide +kernel) rfl ?_
      refine fg_12_324_51 rfl (by decide +kernel) ?_
      refine tq_s_imul (by decide +kernel) ?_
      refine tq_s_aload_n (kk := 0) (by decide +kernel) rfl ?_
      refine fg_12_71_51 rfl (by decide +kernel) ?_
      refine tq_s_aload_n (kk := 0) (by decide +kernel) rfl ?_
      refine fg_12_324_51 rfl (by decide +kernel) ?_
      refine tq_s_iald (by decide +kernel) sh_68 h.1 ?_
      replace h := h.2
      refine tq_s_iadd (by decide +kernel) ?_
      refine tq_s_lload (i := 5) (by decide +kernel) rfl ?_
      refine tq_g_last (by decide +kernel) sh_69 h.1 (fun z106 ez106 => ?_)
      replace h := h.2 z106 ez106
      refine tq_s_aload_n (kk := 0) (by decide +kernel) rfl ?_
      refine fg_12_71_51 rfl (by decide +kernel) ?_
      refine tq_s_aload_n (kk := 0) (by decide +kernel) rfl ?_
      refine fg_12_324_51 rfl (by decide +kernel) ?_
      refine tq_s_dup2_11 (by decide +kernel) rfl rfl ?_
      refine tq_s_iald (by decide +kernel) sh_68 h.1 ?_
      replace h := h.2
      refine tq_k_ic (n := 1) (v := (1 : Int32)) (by decide +kernel) kc_1 ?_
      refine tq_s_iadd (by decide +kernel) ?_
      refine tq_g_iast (by decide +kernel) sh_68 h.1 (fun z107 ez107 => ?_)
      replace h := h.2 z107 ez107
      exact ac_X12_kind_200 hB97 hB114 h
def wb_X12_kind_114 (B97 : Int32 → Int64 → Int32 → tq_S → Prop) (B114 : Int32 → Int64 → Int32 → tq_S → Prop) (Q : tq_O → tq_S → Prop) (a1 : Int32) (a2 : Int32) (a3 : Int32) (a4 : Int32) (a5 : Int64) (a7 : Int32) (a8 : Int32) (z : tq_S) : Prop := ((a1 = 0 → wc_X12_kind_125 B97 B114 Q a1 a2 a3 a4 a5 a7 a8 (1 : Int32) a8 z) ∧ (¬ a1 = 0 → wc_X12_kind_125 B97 B114 Q a1 a2 a3 a4 a5 a7 a8 (4 : Int32) a8 z))
def wc_X12_kind_114 (B97 : Int32 → Int64 → Int32 → tq_S → Prop) (Q : tq_O → tq_S → Prop) (a1 : Int32) (a2 : Int32) (a3 : Int32) (a4 : Int32) (a5 : Int64) (a7 : Int32) (a8 : Int32) (z : tq_S) : Prop := tq_lp (σ := Int32 × Int64 × Int32 × tq_S) (fun B s => wb_X12_kind_114 B97 (fun b4 b5 b8 z => B (b4, b5, b8, z)) Q a1 a2 a3 s.1 s.2.1 a7 s.2.2.1 s.2.2.2) (a4, a5, a8, z)
theorem ab_X12_kind_114 {K : Nat × (Nat → Int32)} {x : Nat} {Q : tq_O → tq_S → Prop} {B97 : Int32 → Int64 → Int32 → tq_S → Prop} {B114 : Int32 → Int64 → Int32 → tq_S → Prop} {a1 : Int32} {a2 : Int32} {a3 : Int32} {a4 : Int32} {a5 : Int64} {a7 : Int32} {a8 : Int32} {z : tq_S} (hB97 : ∀ (b4 : Int32) (b5 : Int64) (b7 : Int32) (z : tq_S), B97 b4 b5 b7 z → tq_T K 3 x mm_X12_kind 97 [.ref 51, .int a1, .int a2, .int a3, .int b4, .long b5, .null, .int b7, .null] [] z Q) (hB114 : ∀ (b4 : Int32) (b5 : Int64) (b8 : Int32) (z : tq_S), B114 b4 b5 b8 z → tq_T K 3 x mm_X12_kind 114 [.ref 51, .int a1, .int a2, .int a3, .int b4, .long b5, .null, .int a7, .int b8] [] z Q) (h : wb_X12_kind_114 B97 B114 Q a1 a2 a3 a4 a5 a7 a8 z) : tq_T K 3 x mm_X12_kind 114 [.ref 51, .int a1, .int a2, .int a3, .int a4, .long a5, .null, .int a7, .int a8] [] z Q := by
  unfold wb_X12_kind_114 at h
  refine tq_s_iload (i := 8) (by decide +kernel) rfl ?_
  refine tq_s_iload_n (kk := 1) (by decide +kernel) rfl ?_
  refine tq_if_eq (off := 7) (tgt := 124) (by decide +kernel) (by decide +kernel) (fun hc => ?_) (fun hc => ?_)
  · replace h := h.1 hc
    refine tq_k_ic (n := 1) (v := (1 : Int32)) (by decide +kernel) kc_1 ?_
    exact ac_X12_kind_125 hB97 hB114 h
  · replace h := h.2 hc
    refine tq_k_ic (n := 4) (v := (4 : Int32)) (by decide +kernel) kc_4 ?_
    refine tq_s_goto (off := 4) (tgt := 125) (by decide +kernel) (by decide +kernel) ?_
    exact ac_X12_kind_125 hB97 hB114 h
theorem ac_X12_kind_114 {K : Nat × (Nat → Int32)} {x : Nat} {Q : tq_O → tq_S → Prop} {B97 : Int32 → Int64 → Int32 → tq_S → Prop} {a1 : Int32} {a2 : Int32} {a3 : Int32} {a4 : Int32} {a5 : Int64} {a7 : Int32} {a8 : Int32} {z : tq_S} (hB97 : ∀ (b4 : Int32) (b5 : Int64) (b7 : Int32) (z : tq_S), B97 b4 b5 b7 z → tq_T K 3 x mm_X12_kind 97 [.ref 51, .int a1, .int a2, .int a3, .int b4, .long b5, .null, .int b7, .null] [] z Q) (h : wc_X12_kind_114 B97 Q a1 a2 a3 a4 a5 a7 a8 z) : tq_T K 3 x mm_X12_kind 114 [.ref 51, .int a1, .int a2, .int a3, .int a4, .long a5, .null, .int a7, .int a8] [] z Q :=
  tq_lp_T (σ := Int32 × Int64 × Int32 × tq_S) (s := (a4, a5, a8, z)) (G := fun s => tq_T K 3 x mm_X12_kind 114 [.ref 51, .int a1, .int a2, .int a3, .int s.1, .long s.2.1, .null, .int a7, .int s.2.2.1] [] s.2.2.2 Q) (fun B hB s h => ab_X12_kind_114 hB97 (fun b4 b5 b8 z h => hB (b4, b5, b8, z) h) h) h
def wc_X12_kind_235 (Q : tq_O → tq_S → Prop) (a3 : Int32) (a4 : Int32) (z : tq_S) : Prop := wm_X12_isThrown a4 (3 : Int32) z (tq_wi fun r102 z101 => ((r102 = 0 → vp_in (tq_fi z101 3290) 6 ∧ ∀ z103 : tq_S, z103 = tq_sai z101 67 (upd (tq_ai z101 67) (Int32.toNatClampNeg (tq_fi z101 3290)) a3) → ∀ z104 : tq_S, z104 = tq_sfi z103 3290 ((tq_fi z103 3290) + (1 : Int32)) → ∀ z105 : tq_S, z105 = tq_sfl z104 3289 (0 : Int64) → vp_in ((tq_fi z105 3290) - (1 : Int32)) 6 ∧ Q (.inl (some (.int (tq_ai z105 68 (Int32.toNatClampNeg ((tq_fi z105 3290) - (1 : Int32))))))) z105) ∧ (¬ r102 = 0 → Q (.inl (some (.int (0 : Int32)))) z101)))
theorem ac_X12_kind_235 {K : Nat × (Nat → Int32)} {x : Nat} {Q : tq_O → tq_S → Prop} {a3 : Int32} {a4 : Int32} {z : tq_S} (h : wc_X12_kind_235 Q a3 a4 z) : tq_T K 3 x mm_X12_kind 235 [.ref 51, .null, .null, .int a3, .int a4, .null, .null, .null, .null] [] z Q := by
  unfold wc_X12_kind_235 at h
  refine tq_s_aload_n (kk := 0) (by decide +kernel) rfl ?_
  refine tq_s_iload (i := 4) (by decide +kernel) rfl ?_
  refine tq_k_ic (n := 3) (v := (3 : Int32)) (by decide +kernel) kc_3 ?_
  refine tq_callV (as := [.int a4, .int (3 : Int32)]) (st := []) (d1 := 0) (x1 := 0) (x2 := x) (by decide +kernel) ln_12_152 mf_X12_isThrown rfl sh_51 rfl (by decide) np_X12_isThrown rfl (Nat.le_of_ble_eq_true rfl) (by decide) (Nat.zero_add _).symm (tq_M_mono (am_X12_isThrown h) ?_)
  refine tq_wi_e (fun r102 z101 h => ?_)
  refine tq_if_eq (off := 5) (tgt := 247) (by decide +kernel) (by decide +kernel) (fun hc => ?_) (fun hc => ?_)
  · replace h := h.1 hc
    refine tq_s_aload_n (kk := 0) (by decide +kernel) rfl ?_
    refine fg_12_68_51 rfl (by decide +kernel) ?_
    refine tq_s_aload_n (kk := 0) (by decide +kernel) rfl ?_
    refine fg_12_324_51 rfl (by decide +kernel) ?_
    refine tq_s_iload_n (kk := 3) (by decide +kernel) rfl ?_
    refine tq_g_iast (by decide +kernel) sh_67 h.1 (fun z103 ez103 => ?_)
    replace h := h.2 z103 ez103
    refine tq_s_aload_n (kk := 0) (by decide +kernel) rfl ?_
    refine tq_s_dup (by decide +kernel) rfl ?_
    refine fg_12_324_51 rfl (by decide +kernel) ?_
    refine tq_k_ic (n := 1) (v := (1 : Int32)) (by decide +kernel) kc_1 ?_
    refine tq_s_iadd (by decide +kernel) ?_
    refine fp_12_324_51 rfl (by decide +kernel) (fun z104 ez104 => ?_)
    replace h := h z104 ez104
    refine tq_s_aload_n (kk := 0) (by decide +kernel) rfl ?_
    refine tq_k_lc (n := 0) (v := (0 : Int64)) (by decide +kernel) (by decide +kernel) ?_
    refine fp_12_304_51 rfl (by decide +kernel) (fun z105 ez105 => ?_)
    replace h := h z105 ez105
    refine tq_s_aload_n (kk := 0) (by decide +kernel) rfl ?_
    refine fg_12_71_51 rfl (by decide +kernel) ?_
    refine tq_s_aload_n (kk := 0) (by decide +kernel) rfl ?_
    refine fg_12_324_51 rfl (by decide +kernel) ?_
    refine tq_k_ic (n := 1) (v := (1 : Int32)) (by decide +kernel) kc_1 ?_
    refine tq_s_isub (by decide +kernel) ?_
    refine tq_s_iald (by decide +kernel) sh_68 h.1 ?_
    replace h := h.2
    exact tq_ret_i (st := []) (by decide +kernel) rfl h
  · replace h := h.2 hc
    refine tq_k_ic (n := 0) (v := (0 : Int32)) (by decide +kernel) kc_0 ?_
    exact tq_ret_i (st := []) (by decide +kernel) rfl h
def wc_X12_kind_108 (B97 : Int32 → Int64 → Int32 → tq_S → Prop) (Q : tq_O → tq_S → Prop) (a1 : Int32) (a2 : Int32) (a3 : Int32) (a4 : Int32) (a5 : Int64) (a7 : Int32) (s0 : Int32) (s1 : Int32) (z : tq_S) : Prop := ((s0 ≤ s1 → wc_X12_kind_235 Q a3 a4 z) ∧ (¬ s0 ≤ s1 → wc_X12_kind_114 B97 Q a1 a2 a3 a4 a5 a7 (0 : Int32) z))
theorem ac_X12_kind_108 {K : Nat × (Nat → Int32)} {x : Nat} {Q : tq_O → tq_S → Prop} {B97 : Int32 → Int64 → Int32 → tq_S → Prop} {a1 : Int32} {a2 : Int32} {a3 : Int32} {a4 : Int32} {a5 : Int64} {a7 : Int32} {s0 : Int32} {s1 : Int32} {z : tq_S} (hB97 : ∀ (b4 : Int32) (b5 : Int64) (b7 : Int32) (z : tq_S), B97 b4 b5 b7 z → tq_T K 3 x mm_X12_kind 97 [.ref 51, .int a1, .int a2, .int a3, .int b4, .long b5, .null, .int b7, .null] [] z Q) (h : wc_X12_kind_108 B97 Q a1 a2 a3 a4 a5 a7 s0 s1 z) : tq_T K 3 x mm_X12_kind 108 [.ref 51, .int a1, .int a2, .int a3, .int a4, .long a5, .null, .int a7, .null] [.int s0, .int s1] z Q := by
  unfold wc_X12_kind_108 at h
  refine tq_icmp_ge (off := 127) (tgt := 235) (by decide +kernel) (by decide +kernel) (fun hc => ?_) (fun hc => ?_)
  · replace h := h.1 hc
    exact tq_to (tq_lk1 (tq_ld1 (tq_ld1 (tq_lk1 (tq_lk1 (tq_ld1 (tq_lk1 (tq_ld1 (tq_lk1 tq_l0))))))))) (ac_X12_kind_235 h)
  · replace h := h.2 hc
    refine tq_k_ic (n := 0) (v := (0 : Int32)) (by decide +kernel) kc_0 ?_
    refine tq_s_istore (i := 8) (L9 := [.ref 51, .int a1, .int a2, .int a3, .int a4, .long a5, .null, .int a7, .int (0 : Int32)]) (by decide +kernel) (by decide) rfl ?_
    exact ac_X12_kind_114 hB97 h
def wb_X12_kind_97 (B97 : Int32 → Int64 → Int32 → tq_S → Prop) (Q : tq_O → tq_S → Prop) (a1 : Int32) (a2 : Int32) (a3 : Int32) (a4 : Int32) (a5 : Int64) (a7 : Int32) (z : tq_S) : Prop := ((a2 = 0 → wc_X12_kind_108 B97 Q a1 a2 a3 a4 a5 a7 (1 : Int32) a7 z) ∧ (¬ a2 = 0 → wc_X12_kind_108 B97 Q a1 a2 a3 a4 a5 a7 (2 : Int32) a7 z))
def wc_X12_kind_97 (Q : tq_O → tq_S → Prop) (a1 : Int32) (a2 : Int32) (a3 : Int32) (a4 : Int32) (a5 : Int64) (a7 : Int32) (z : tq_S) : Prop := tq_lp (σ := Int32 × Int64 × Int32 × tq_S) (fun B s => wb_X12_kind_97 (fun b4 b5 b7 z => B (b4, b5, b7, z)) Q a1 a2 a3 s.1 s.2.1 s.2.2.1 s.2.2.2) (a4, a5, a7, z)
theorem ab_X12_kind_97 {K : Nat × (Nat → Int32)} {x : Nat} {Q : tq_O → tq_S → Prop} {B97 : Int32 → Int64 → Int32 → tq_S → Prop} {a1 : Int32} {a2 : Int32} {a3 : Int32} {a4 : Int32} {a5 : Int64} {a7 : Int32} {z : tq_S} (hB97 : ∀ (b4 : Int32) (b5 : Int64) (b7 : Int32) (z : tq_S), B97 b4 b5 b7 z → tq_T K 3 x mm_X12_kind 97 [.ref 51, .int a1, .int a2, .int a3, .int b4, .long b5, .null, .int b7, .null] [] z Q) (h : wb_X12_kind_97 B97 Q a1 a2 a3 a4 a5 a7 z) : tq_T K 3 x mm_X12_kind 97 [.ref 51, .int a1, .int a2, .int a3, .int a4, .long a5, .null, .int a7, .null] [] z Q := by
  unfold wb_X12_kind_97 at h
  refine tq_s_iload (i := 7) (by decide +kernel) rfl ?_
  refine tq_s_iload_n (kk := 2) (by decide +kernel) rfl ?_
  refine tq_if_eq (off := 7) (tgt := 107) (by decide +kernel) (by decide +kernel) (fun hc => ?_) (fun hc => ?_)
  · replace h := h.1 hc
    refine tq_k_ic (n := 1) (v := (1 : Int32)) (by decide +kernel) kc_1 ?_
    exact ac_X12_kind_108 hB97 h
  · replace h := h.2 hc
    refine tq_k_ic (n := 2) (v := (2 : Int32)) (by decide +kernel) kc_2 ?_
    refine tq_s_goto (off := 4) (tgt := 108) (by decide +kernel) (by decide +kernel) ?_
    exact ac_X12_kind_108 hB97 h
theorem ac_X12_kind_97 {K : Nat × (Nat → Int32)} {x : Nat} {Q : tq_O → tq_S → Prop} {a1 : Int32} {a2 : Int32} {a3 : Int32} {a4 : Int32} {a5 : Int64} {a7 : Int32} {z : tq_S} (h : wc_X12_kind_97 Q a1 a2 a3 a4 a5 a7 z) : tq_T K 3 x mm_X12_kind 97 [.ref 51, .int a1, .int a2, .int a3, .int a4, .long a5, .null, .int a7, .null] [] z Q :=
  tq_lp_T (σ := Int32 × Int64 × Int32 × tq_S) (s := (a4, a5, a7, z)) (G := fun s => tq_T K 3 x mm_X12_kind 97 [.ref 51, .int a1, .int a2, .int a3, .int s.1, .long s.2.1, .null, .int s.2.2.1, .null] [] s.2.2.2 Q) (fun B hB s h => ab_X12_kind_97 (fun b4 b5 b7 z h => hB (b4, b5, b7, z) h) h) h
def wc_X12_kind_83 (Q : tq_O → tq_S → Prop) (a1 : Int32) (a2 : Int32) (a3 : Int32) (s0 : Int32) (z : tq_S) : Prop := wm_X12_moved (tq_fl z 3289) z (tq_wl fun r102 z101 => wc_X12_kind_97 Q a1 a2 a3 s0 r102 (0 : Int32) z101)
theorem ac_X12_kind_83 {K : Nat × (Nat → Int32)} {x : Nat} {Q : tq_O → tq_S → Prop} {a1 : Int32} {a2 : Int32} {a3 : Int32} {s0 : Int32} {z : tq_S} (h : wc_X12_kind_83 Q a1 a2 a3 s0 z) : tq_T K 3 x mm_X12_kind 83 [.ref 51, .int a1, .int a2, .int a3, .null, .null, .null, .null, .null] [.int s0] z Q := by
  unfold wc_X12_kind_83 at h
  refine tq_s_istore (i := 4) (L9 := [.ref 51, .int a1, .int a2, .int a3, .int s0, .null, .null, .null, .null]) (by decide +kernel) (by decide) rfl ?_
  refine tq_s_aload_n (kk := 0) (by decide +kernel) rfl ?_
  refine fg_12_304_51 rfl (by decide +kernel) ?_
  refine tq_callS (as := [.long (tq_fl z 3289)]) (st := []) (d1 := 1) (x1 := 0) (x2 := x) (by decide +kernel) ln_12_316 mf_X12_moved rfl (by decide) np_X12_moved rfl (Nat.le_of_ble_eq_true rfl) (by decide) (Nat.zero_add _).symm (tq_M_mono (am_X12_moved h) ?_)
  refine tq_wl_e (fun r102 z101 h => ?_)
  refine tq_s_lstore (i := 5) (L9 := [.ref 51, .int a1, .int a2, .int a3, .int s0, .long r102, .null, .null, .null]) (by decide +kernel) (by decide) rfl ?_
  refine tq_k_ic (n := 0) (v := (0 : Int32)) (by decide +kernel) kc_0 ?_
  refine tq_s_istore (i := 7) (L9 := [.ref 51, .int a1, .int a2, .int a3, .int s0, .long r102, .null, .int (0 : Int32), .null]) (by decide +kernel) (by decide) rfl ?_
  exact ac_X12_kind_97 h
def wc_X12_kind_49 (Q : tq_O → tq_S → Prop) (a1 : Int32) (a2 : Int32) (a3 : Int32) (s0 : Int32) (z : tq_S) : Prop := wm_X12_isThrown s0 (2 : Int32) z (tq_wi fun r102 z101 => ((r102 = 0 → vp_in (tq_fi z101 3290) 6 ∧ ∀ z103 : tq_S, z103 = tq_sai z101 68 (upd (tq_ai z101 68) (Int32.toNatClampNeg (tq_fi z101 3290)) (0 : Int32)) → wm_X12_hangs (tq_fl z103 3289) z103 (tq_wi fun r105 z104 => ((¬ r105 = 0 → wc_X12_kind_83 Q a1 a2 a3 (0 : Int32) z104) ∧ (r105 = 0 → wc_X12_kind_83 Q a1 a2 a3 (1 : Int32) z104)))) ∧ (¬ r102 = 0 → Q (.inl (some (.int (0 : Int32)))) z101)))
theorem ac_X12_kind_49 {K : Nat × (Nat → Int32)} {x : Nat} {Q : tq_O → tq_S → Prop} {a1 : Int32} {a2 : Int32} {a3 : Int32} {s0 : Int32} {z : tq_S} (h : wc_X12_kind_49 Q a1 a2 a3 s0 z) : tq_T K 3 x mm_X12_kind 49 [.ref 51, .int a1, .int a2, .int a3, .null, .null, .null, .null, .null] [.int s0, .ref 51] z Q := by
  unfold wc_X12_kind_49 at h
  refine tq_k_ic (n := 2) (v := (2 : Int32)) (by decide +kernel) kc_2 ?_
  refine tq_callV (as := [.int s0, .int (2 : Int32)]) (st := []) (d1 := 0) (x1 := 0) (x2 := x) (by decide +kernel) ln_12_152 mf_X12_isThrown rfl sh_51 rfl (by decide) np_X12_isThrown rfl (Nat.le_of_ble_eq_true rfl) (by decide) (Nat.zero_add _).symm (tq_M_mono (am_X12_isThrown h) ?_)
  refine tq_wi_e (fun r102 z101 h => ?_)
  refine tq_if_eq (off := 5) (tgt := 58) (by decide +kernel) (by decide +kernel) (fun hc => ?_) (fun hc => ?_)
  · replace h := h.1 hc
    refine tq_s_aload_n (kk := 0) (by decide +kernel) rfl ?_
    refine fg_12_71_51 rfl (by decide +kernel) ?_
    refine tq_s_aload_n (kk := 0) (by decide +kernel) rfl ?_
    refine fg_12_324_51 rfl (by decide +kernel) ?_
    refine tq_k_ic (n := 0) (v := (0 : Int32)) (by decide +kernel) kc_0 ?_
    refine tq_g_iast (by decide +kernel) sh_68 h.1 (fun z103 ez103 => ?_)
    replace h := h.2 z103 ez103
    refine tq_s_aload_n (kk := 0) (by decide +kernel) rfl ?_
    refine fg_12_304_51 rfl (by decide +kernel) ?_
    refine tq_callS (as := [.long (tq_fl z103 3289)]) (st := []) (d1 := 2) (x1 := 0) (x2 := x) (by decide +kernel) ln_12_327 mf_X12_hangs rfl (by decide) np_X12_hangs rfl (Nat.le_of_ble_eq_true rfl) (by decide) (Nat.zero_add _).symm (tq_M_mono (am_X12_hangs h) ?_)
    refine tq_wi_e (fun r105 z104 h => ?_)
    refine tq_if_ne (off := 7) (tgt := 82) (by decide +kernel) (by decide +kernel) (fun hc => ?_) (fun hc => ?_)
    · replace h := h.1 hc
      refine tq_k_ic (n := 0) (v := (0 : Int32)) (by decide +kernel) kc_0 ?_
      exact ac_X12_kind_83 h
    · replace h := h.2 hc
      refine tq_k_ic (n := 1) (v := (1 : Int32)) (by decide +kernel) kc_1 ?_
      refine tq_s_goto (off := 4) (tgt := 83) (by decide +kernel) (by decide +kernel) ?_
      exact ac_X12_kind_83 h
  · replace h := h.2 hc
    refine tq_k_ic (n := 0) (v := (0 : Int32)) (by decide +kernel) kc_0 ?_
    exact tq_ret_i (st := []) (by decide +kernel) rfl h
def wc_X12_kind_44 (Q : tq_O → tq_S → Prop) (a1 : Int32) (a2 : Int32) (a3 : Int32) (z : tq_S) : Prop := wc_X12_kind_49 Q a1 a2 a3 (1 : Int32) z
theorem ac_X12_kind_44 {K : Nat × (Nat → Int32)} {x : Nat} {Q : tq_O → tq_S → Prop} {a1 : Int32} {a2 : Int32} {a3 : Int32} {z : tq_S} (h : wc_X12_kind_44 Q a1 a2 a3 z) : tq_T K 3 x mm_X12_kind 44 [.ref 51, .int a1, .int a2, .int a3, .null, .null, .null, .null, .null] [.ref 51] z Q := by
  unfold wc_X12_kind_44 at h
  refine tq_k_ic (n := 1) (v := (1 : Int32)) (by decide +kernel) kc_1 ?_
  refine tq_s_goto (off := 4) (tgt := 49) (by decide +kernel) (by decide +kernel) ?_
  exact ac_X12_kind_49 h
def wc_X12_kind_16 (Q : tq_O → tq_S → Prop) (a1 : Int32) (a2 : Int32) (a3 : Int32) (s0 : Int32) (z : tq_S) : Prop := wm_X12_isThrown s0 (1 : Int32) z (tq_wi fun r102 z101 => ((¬ r102 = 0 → Q (.inl (some (.int (0 : Int32)))) z101) ∧ (r102 = 0 → wm_X12_bits (tq_fl z101 3289) z101 (tq_wi fun r104 z103 => ((r104 < (3 : Int32) → wc_X12_kind_44 Q a1 a2 a3 z103) ∧ (¬ r104 < (3 : Int32) → ((¬ (tq_fi z103 3290) = (6 : Int32) → wc_X12_kind_49 Q a1 a2 a3 (0 : Int32) z103) ∧ ((tq_fi z103 3290) = (6 : Int32) → wc_X12_kind_44 Q a1 a2 a3 z103))))))))
theorem ac_X12_kind_16 {K : Nat × (Nat → Int32)} {x : Nat} {Q : tq_O → tq_S → Prop} {a1 : Int32} {a2 : Int32} {a3 : Int32} {s0 : Int32} {z : tq_S} (h : wc_X12_kind_16 Q a1 a2 a3 s0 z) : tq_T K 3 x mm_X12_kind 16 [.ref 51, .int a1, .int a2, .int a3, .null, .null, .null, .null, .null] [.int s0, .ref 51] z Q := by
  unfold wc_X12_kind_16 at h
  refine tq_k_ic (n := 1) (v := (1 : Int32)) (by decide +kernel) kc_1 ?_
  refine tq_callV (as := [.int s0, .int (1 : Int32)]) (st := []) (d1 := 0) (x1 := 0) (x2 := x) (by decide +kernel) ln_12_152 mf_X12_isThrown rfl sh_51 rfl (by decide) np_X12_isThrown rfl (Nat.le_of_ble_eq_true rfl) (by decide) (Nat.zero_add _).symm (tq_M_mono (am_X12_isThrown h) ?_)
  refine tq_wi_e (fun r102 z101 h => ?_)
  refine tq_if_ne (off := 36) (tgt := 56) (by decide +kernel) (by decide +kernel) (fun hc => ?_) (fun hc => ?_)
  · replace h := h.1 hc
    refine tq_k_ic (n := 0) (v := (0 : Int32)) (by decide +kernel) kc_0 ?_
    exact tq_ret_i (st := []) (by decide +kernel) rfl h
  · replace h := h.2 hc
    refine tq_s_aload_n (kk := 0) (by decide +kernel) rfl ?_
    refine tq_s_aload_n (kk := 0) (by decide +kernel) rfl ?_
    refine fg_12_304_51 rfl (by decide +kernel) ?_
    refine tq_callS (as := [.long (tq_fl z101 3289)]) (st := [.ref 51]) (d1 := 0) (x1 := 0) (x2 := x) (by decide +kernel) ln_12_308 mf_X12_bits rfl (by decide) np_X12_bits rfl (Nat.le_of_ble_eq_true rfl) (by decide) (Nat.zero_add _).symm (tq_M_mono (am_X12_bits h) ?_)
    refine tq_wi_e (fun r104 z103 h => ?_)
    refine tq_k_ic (n := 3) (v := (3 : Int32)) (by decide +kernel) kc_3 ?_
    refine tq_icmp_lt (off := 12) (tgt := 44) (by decide +kernel) (by decide +kernel) (fun hc => ?_) (fun hc => ?_)
    · replace h := h.1 hc
      exact ac_X12_kind_44 h
    · replace h := h.2 hc
      refine tq_s_aload_n (kk := 0) (by decide +kernel) rfl ?_
      refine fg_12_324_51 rfl (by decide +kernel) ?_
      refine tq_k_bi (n := 6) (v := (6 : Int32)) (by decide +kernel) kb_6 ?_
      refine tq_icmp_ne (off := 7) (tgt := 48) (by decide +kernel) (by decide +kernel) (fun hc => ?_) (fun hc => ?_)
      · replace h := h.1 hc
        refine tq_k_ic (n := 0) (v := (0 : Int32)) (by decide +kernel) kc_0 ?_
        exact ac_X12_kind_49 h
      · replace h := h.2 hc
        exact ac_X12_kind_44 h
def wm_X12_kind (a1 : Int32) (a2 : Int32) (a3 : Int32) (z : tq_S) (Q : tq_O → tq_S → Prop) : Prop := wm_X12_isIn a3 (1 : Int32) (8 : Int32) z (tq_wi fun r2 z1 => ((¬ r2 = 0 → wc_X12_kind_16 Q a1 a2 a3 (0 : Int32) z1) ∧ (r2 = 0 → wc_X12_kind_16 Q a1 a2 a3 (1 : Int32) z1)))
theorem am_X12_kind {K : Nat × (Nat → Int32)} {x : Nat} {z : tq_S} {Q : tq_O → tq_S → Prop} {a1 : Int32} {a2 : Int32} {a3 : Int32} (h : wm_X12_kind a1 a2 a3 z Q) : tq_M K 3 x mm_X12_kind [.ref 51, .int a1, .int a2, .int a3] z Q := by
  unfold wm_X12_kind at h
  refine tq_enter (L := [.ref 51, .int a1, .int a2, .int a3, .null, .null, .null, .null, .null]) mf_X12_kind.1 rfl rfl (Nat.le_of_ble_eq_true rfl) ?_
  refine tq_s_aload_n (kk := 0) (by decide +kernel) rfl ?_
  refine tq_s_iload_n (kk := 3) (by decide +kernel) rfl ?_
  refine tq_k_ic (n := 1) (v := (1 : Int32)) (by decide +kernel) kc_1 ?_
  refine tq_k_bi (n := 8) (v := (8 : Int32)) (by decide +kernel) kb_8 ?_
  refine tq_callS (as := [.int a3, .int (1 : Int32), .int (8 : Int32)]) (st := [.ref 51]) (d1 := 0) (x1 := 0) (x2 := x) (by decide +kernel) ln_12_148 mf_X12_isIn rfl (by decide) np_X12_isIn rfl (Nat.le_of_ble_eq_true rfl) (by decide) (Nat.zero_add _).symm (tq_M_mono (am_X12_isIn h) ?_)
  refine tq_wi_e (fun r2 z1 h => ?_)
  refine tq_if_ne (off := 7) (tgt := 15) (by decide +kernel) (by decide +kernel) (fun hc => ?_) (fun hc => ?_)
  · replace h := h.1 hc
    refine tq_k_ic (n := 0) (v := (0 : Int32)) (by decide +kernel) kc_0 ?_
    exact ac_X12_kind_16 h
  · replace h := h.2 hc
    refine tq_k_ic (n := 1) (v := (1 : Int32)) (by decide +kernel) kc_1 ?_
    refine tq_s_goto (off := 4) (tgt := 16) (by decide +kernel) (by decide +kernel) ?_
    exact ac_X12_kind_16 h
def wm_X12_clear  (z : tq_S) (Q : tq_O → tq_S → Prop) : Prop := ∀ z1 : tq_S, z1 = tq_sfi z 3264 (0 : Int32) → ∀ v2 : Int32, v2 = (tq_fi z1 3290) → ∀ z3 : tq_S, z3 = tq_sfi z1 3290 (0 : Int32) → ∀ z4 : tq_S, z4 = tq_sfl z3 3289 (0 : Int64) → Q (.inl (some (.int v2))) z4
theorem am_X12_clear {K : Nat × (Nat → Int32)} {x : Nat} {z : tq_S} {Q : tq_O → tq_S → Prop}  (h : wm_X12_clear z Q) : tq_M K 0 x mm_X12_clear [.ref 51] z Q := by
  unfold wm_X12_clear at h
  refine tq_enter (L := [.ref 51, .null]) mf_X12_clear.1 rfl rfl (Nat.le_of_ble_eq_true rfl) ?_
  refine tq_s_aload_n (kk := 0) (by decide +kernel) rfl ?_
  refine tq_k_ic (n := 0) (v := (0 : Int32)) (by decide +kernel) kc_0 ?_
  refine fp_12_129_51 rfl (by decide +kernel) (fun z1 ez1 => ?_)
  replace h := h z1 ez1
  refine tq_s_aload_n (kk := 0) (by decide +kernel) rfl ?_
  refine fg_12_324_51 rfl (by decide +kernel) ?_
  refine tq_g_istore_n (kk := 1) (fun v2 => [.ref 51, .int v2]) (by decide +kernel) (by decide) (fun _ => rfl) (fun v2 ev2 => ?_)
  replace h := h v2 ev2
  refine tq_s_aload_n (kk := 0) (by decide +kernel) rfl ?_
  refine tq_k_ic (n := 0) (v := (0 : Int32)) (by decide +kernel) kc_0 ?_
  refine fp_12_324_51 rfl (by decide +kernel) (fun z3 ez3 => ?_)
  replace h := h z3 ez3
  refine tq_s_aload_n (kk := 0) (by decide +kernel) rfl ?_
  refine tq_k_lc (n := 0) (v := (0 : Int64)) (by decide +kernel) (by decide +kernel) ?_
  refine fp_12_304_51 rfl (by decide +kernel) (fun z4 ez4 => ?_)
  replace h := h z4 ez4
  refine tq_s_iload_n (kk := 1) (by decide +kernel) rfl ?_
  exact tq_ret_i (st := []) (by decide +kernel) rfl h
def wb_X12_lowest_2 (B2 : Int32 → tq_S → Prop) (Q : tq_O → tq_S → Prop) (a0 : Int64) (a2 : Int32) (z : tq_S) : Prop := ((¬ (((Int64.toUInt64 a0) >>> ((Int32.toInt64 a2).toUInt64 &&& Int64.toUInt64 63)).toInt64 &&& (1 : Int64)) = (0 : Int64) → Q (.inl (some (.int a2))) z) ∧ ((((Int64.toUInt64 a0) >>> ((Int32.toInt64 a2).toUInt64 &&& Int64.toUInt64 63)).toInt64 &&& (1 : Int64)) = (0 : Int64) → ∀ v101 : Int32, v101 = a2 + (1 : Int32) → B2 v101 z))
def wc_X12_lowest_2 (Q : tq_O → tq_S → Prop) (a0 : Int64) (a2 : Int32) (z : tq_S) : Prop := tq_lp (σ := Int32 × tq_S) (fun B s => wb_X12_lowest_2 (fun b2 z => B (b2, z)) Q a0 s.1 s.2) (a2, z)
theorem ab_X12_lowest_2 {K : Nat × (Nat → Int32)} {x : Nat} {Q : tq_O → tq_S → Prop} {B2 : Int32 → tq_S → Prop} {a0 : Int64} {a2 : Int32} {z : tq_S} (hB2 : ∀ (b2 : Int32) (z : tq_S), B2 b2 z → tq_T K 0 x mm_X12_lowest 2 [.long a0, .null, .int b2] [] z Q) (h : wb_X12_lowest_2 B2 Q a0 a2 z) : tq_T K 0 x mm_X12_lowest 2 [.long a0, .null, .int a2] [] z Q := by
  unfold wb_X12_lowest_2 at h
  refine tq_s_lload_n (kk := 0) (by decide +kernel) rfl ?_
  refine tq_s_iload_n (kk := 2) (by decide +kernel) rfl ?_
  refine tq_s_lushr (by decide +kernel) ?_
  refine tq_k_lc (n := 1) (v := (1 : Int64)) (by decide +kernel) (by decide +kernel) ?_
  refine tq_s_land (by decide +kernel) ?_
  refine tq_k_lc (n := 0) (v := (0 : Int64)) (by decide +kernel) (by decide +kernel) ?_
  refine tq_lcmp_ne (off := 9) (tgt := 18) (by decide +kernel) (by decide +kernel) (by decide +kernel) (fun hc => ?_) (fun hc => ?_)
  · replace h := h.1 hc
    refine tq_s_iload_n (kk := 2) (by decide +kernel) rfl ?_
    exact tq_ret_i (st := []) (by decide +kernel) rfl h
  · replace h := h.2 hc
    refine tq_g_iinc (i := 2) (fun v101 => [.long a0, .null, .int v101]) (by decide +kernel) rfl (1 : Int32) kc_1 (fun _ => rfl) (fun v101 ev101 => ?_)
    replace h := h v101 ev101
    refine tq_s_goto (off := -13) (tgt := 2) (by decide +kernel) (by decide +kernel) ?_
    exact hB2 _ _ h
theorem ac_X12_lowest_2 {K : Nat × (Nat → Int32)} {x : Nat} {Q : tq_O → tq_S → Prop} {a0 : Int64} {a2 : Int32} {z : tq_S} (h : wc_X12_lowest_2 Q a0 a2 z) : tq_T K 0 x mm_X12_lowest 2 [.long a0, .null, .int a2] [] z Q :=
  tq_lp_T (σ := Int32 × tq_S) (s := (a2, z)) (G := fun s => tq_T K 0 x mm_X12_lowest 2 [.long a0, .null, .int s.1] [] s.2 Q) (fun B hB s h => ab_X12_lowest_2 (fun b2 z h => hB (b2, z) h) h) h
def wm_X12_lowest (a0 : Int64) (z : tq_S) (Q : tq_O → tq_S → Prop) : Prop := wc_X12_lowest_2 Q a0 (0 : Int32) z
theorem am_X12_lowest {K : Nat × (Nat → Int32)} {x : Nat} {z : tq_S} {Q : tq_O → tq_S → Prop} {a0 : Int64} (h : wm_X12_lowest a0 z Q) : tq_M K 0 x mm_X12_lowest [.long a0] z Q := by
  unfold wm_X12_lowest at h
  refine tq_enter (L := [.long a0, .null, .null]) mf_X12_lowest.1 rfl rfl (Nat.le_of_ble_eq_true rfl) ?_
  refine tq_k_ic (n := 0) (v := (0 : Int32)) (by decide +kernel) kc_0 ?_
  refine tq_s_istore_n (kk := 2) (L9 := [.long a0, .null, .int (0 : Int32)]) (by decide +kernel) (by decide) rfl ?_
  exact ac_X12_lowest_2 h
def wm_X12_isAhead (a0 : Int64) (a2 : Int64) (z : tq_S) (Q : tq_O → tq_S → Prop) : Prop := ∀ v1 : Int64, v1 = (a0 ^^^ a2) → ((v1 = (0 : Int64) → Q (.inl (some (.int (0 : Int32)))) z) ∧ (¬ v1 = (0 : Int64) → ((((a0 &&& v1) &&& (-v1)) = (0 : Int64) → Q (.inl (some (.int (0 : Int32)))) z) ∧ (¬ ((a0 &&& v1) &&& (-v1)) = (0 : Int64) → Q (.inl (some (.int (1 : Int32)))) z))))
theorem am_X12_isAhead {K : Nat × (Nat → Int32)} {x : Nat} {z : tq_S} {Q : tq_O → tq_S → Prop} {a0 : Int64} {a2 : Int64} (h : wm_X12_isAhead a0 a2 z Q) : tq_M K 0 x mm_X12_isAhead [.long a0, .long a2] z Q := by
  unfold wm_X12_isAhead at h
  refine tq_enter (L := [.long a0, .null, .long a2, .null, .null, .null]) mf_X12_isAhead.1 rfl rfl (Nat.le_of_ble_eq_true rfl) ?_
  refine tq_s_lload_n (kk := 0) (by decide +kernel) rfl ?_
  refine tq_s_lload_n (kk := 2) (by decide +kernel) rfl ?_
  refine tq_s_lxor (by decide +kernel) ?_
  refine tq_g_lstore (i := 4) (fun v1 => [.long a0, .null, .long a2, .null, .long v1, .null]) (by decide +kernel) (by decide) (fun _ => rfl) (fun v1 ev1 => ?_)
  replace h := h v1 ev1
  refine tq_s_lload (i := 4) (by decide +kernel) rfl ?_
  refine tq_k_lc (n := 0) (v := (0 : Int64)) (by decide +kernel) (by decide +kernel) ?_
  refine tq_lcmp_eq (off := 20) (tgt := 29) (by decide +kernel) (by decide +kernel) (by decide +kernel) (fun hc => ?_) (fun hc => ?_)
  · replace h := h.1 hc
    refine tq_k_ic (n := 0) (v := (0 : Int32)) (by decide +kernel) kc_0 ?_
    exact tq_ret_z (st := []) (ty := .boolean) (by decide +kernel) (by decide +kernel) rfl h
  · replace h := h.2 hc
    refine tq_s_lload_n (kk := 0) (by decide +kernel) rfl ?_
    refine tq_s_lload (i := 4) (by decide +kernel) rfl ?_
    refine tq_s_land (by decide +kernel) ?_
    refine tq_s_lload (i := 4) (by decide +kernel) rfl ?_
    refine tq_s_lneg (by decide +kernel) ?_
    refine tq_s_land (by decide +kernel) ?_
    refine tq_k_lc (n := 0) (v := (0 : Int64)) (by decide +kernel) (by decide +kernel) ?_
    refine tq_lcmp_eq (off := 7) (tgt := 29) (by decide +kernel) (by decide +kernel) (by decide +kernel) (fun hc => ?_) (fun hc => ?_)
    · replace h := h.1 hc
      refine tq_k_ic (n := 0) (v := (0 : Int32)) (by decide +kernel) kc_0 ?_
      exact tq_ret_z (st := []) (ty := .boolean) (by decide +kernel) (by decide +kernel) rfl h
    · replace h := h.2 hc
      refine tq_k_ic (n := 1) (v := (1 : Int32)) (by decide +kernel) kc_1 ?_
      refine tq_s_goto (off := 4) (tgt := 30) (by decide +kernel) (by decide +kernel) ?_
      exact tq_ret_z (st := []) (ty := .boolean) (by decide +kernel) (by decide +kernel) rfl h
def wc_X12_addPlace_87 (B12 : Int32 → tq_S → Prop) (Q : tq_O → tq_S → Prop) (a1 : Int32) (a2 : Int64) (a4 : Int32) (a5 : Int32) (z : tq_S) : Prop := ∀ v101 : Int32, v101 = a5 + (-1 : Int32) → B12 v101 z
theorem ac_X12_addPlace_87 {K : Nat × (Nat → Int32)} {x : Nat} {Q : tq_O → tq_S → Prop} {B12 : Int32 → tq_S → Prop} {a1 : Int32} {a2 : Int64} {a4 : Int32} {a5 : Int32} {z : tq_S} (hB12 : ∀ (b5 : Int32) (z : tq_S), B12 b5 z → tq_T K 1 x mm_X12_addPlace 12 [.ref 51, .int a1, .long a2, .null, .int a4, .int b5, .null] [] z Q) (h : wc_X12_addPlace_87 B12 Q a1 a2 a4 a5 z) : tq_T K 1 x mm_X12_addPlace 87 [.ref 51, .int a1, .long a2, .null, .int a4, .int a5, .null] [] z Q := by
  unfold wc_X12_addPlace_87 at h
  refine tq_g_iinc (i := 5) (fun v101 => [.ref 51, .int a1, .long a2, .null, .int a4, .int v101, .null]) (by decide +kernel) rfl (-1 : Int32) kc_m1 (fun _ => rfl) (fun v101 ev101 => ?_)
  replace h := h v101 ev101
  refine tq_s_goto (off := -78) (tgt := 12) (by decide +kernel) (by decide +kernel) ?_
  exact hB12 _ _ h
def wc_X12_addPlace_193 (Q : tq_O → tq_S → Prop) (a1 : Int32) (a2 : Int64) (a4 : Int32) (a5 : Int32) (z : tq_S) : Prop := vp_in a5 4096 ∧ ∀ z101 : tq_S, z101 = tq_sal z 70 (vp_updL (tq_al z 70) (Int32.toNatClampNeg a5) a2) → vp_in a5 4096 ∧ ∀ z102 : tq_S, z102 = tq_sai z101 71 (upd (tq_ai z101 71) (Int32.toNatClampNeg a5) a1) → vp_in a5 4096 ∧ ∀ z103 : tq_S, z103 = tq_sai z102 72 (upd (tq_ai z102 72) (Int32.toNatClampNeg a5) a4) → ∀ z104 : tq_S, z104 = tq_sfi z103 3294 ((tq_fi z103 3294) + (1 : Int32)) → Q (.inl none) z104
theorem ac_X12_addPlace_193 {K : Nat × (Nat → Int32)} {x : Nat} {Q : tq_O → tq_S → Prop} {a1 : Int32} {a2 : Int64} {a4 : Int32} {a5 : Int32} {z : tq_S} (h : wc_X12_addPlace_193 Q a1 a2 a4 a5 z) : tq_T K 1 x mm_X12_addPlace 193 [.ref 51, .int a1, .long a2, .null, .int a4, .int a5, .null] [] z Q := by
  unfold wc_X12_addPlace_193 at h
  refine tq_s_aload_n (kk := 0) (by decide +kernel) rfl ?_
  refine fg_12_77_51 rfl (by decide +kernel) ?_
  refine tq_s_iload (i := 5) (by decide +kernel) rfl ?_
  refine tq_s_lload_n (kk := 2) (by decide +kernel) rfl ?_
  refine tq_g_last (by decide +kernel) sh_70 h.1 (fun z101 ez101 => ?_)
  replace h := h.2 z101 ez101
  refine tq_s_aload_n (kk := 0) (by decide +kernel) rfl ?_
  refine fg_12_80_51 rfl (by decide +kernel) ?_
  refine tq_s_iload (i := 5) (by decide +kernel) rfl ?_
  refine tq_s_iload_n (kk := 1) (by decide +kernel) rfl ?_
  refine tq_g_iast (by decide +kernel) sh_71 h.1 (fun z102 ez102 => ?_)
  replace h := h.2 z102 ez102
  refine tq_s_aload_n (kk := 0) (by decide +kernel) rfl ?_
  refine fg_12_83_51 rfl (by decide +kernel) ?_
  refine tq_s_iload (i := 5) (by decide +kernel) rfl ?_
  refine tq_s_iload (i := 4) (by decide +kernel) rfl ?_
  refine tq_g_iast (by decide +kernel) sh_72 h.1 (fun z103 ez103 => ?_)
  replace h := h.2 z103 ez103
  refine tq_s_aload_n (kk := 0) (by decide +kernel) rfl ?_
  refine tq_s_dup (by decide +kernel) rfl ?_
  refine fg_12_343_51 rfl (by decide +kernel) ?_
  refine tq_k_ic (n := 1) (v := (1 : Int32)) (by decide +kernel) kc_1 ?_
  refine tq_s_iadd (by decide +kernel) ?_
  refine fp_12_343_51 rfl (by decide +kernel) (fun z104 ez104 => ?_)
  replace h := h z104 ez104
  exact tq_ret_v (st := []) (by decide +kernel) rfl h
def wb_X12_addPlace_132 (B132 : Int32 → tq_S → Prop) (Q : tq_O → tq_S → Prop) (a1 : Int32) (a2 : Int64) (a4 : Int32) (a5 : Int32) (a6 : Int32) (z : tq_S) : Prop := ((a6 ≤ a5 → wc_X12_addPlace_193 Q a1 a2 a4 a5 z) ∧ (¬ a6 ≤ a5 → vp_in (a6 - (1 : Int32)) 4096 ∧ vp_in a6 4096 ∧ ∀ z101 : tq_S, z101 = tq_sal z 70 (vp_updL (tq_al z 70) (Int32.toNatClampNeg a6) (tq_al z 70 (Int32.toNatClampNeg (a6 - (1 : Int32))))) → vp_in (a6 - (1 : Int32)) 4096 ∧ vp_in a6 4096 ∧ ∀ z102 : tq_S, z102 = tq_sai z101 71 (upd (tq_ai z101 71) (Int32.toNatClampNeg a6) (tq_ai z101 71 (Int32.toNatClampNeg (a6 - (1 : Int32))))) → vp_in (a6 - (1 : Int32)) 4096 ∧ vp_in a6 4096 ∧ ∀ z103 : tq_S, z103 = tq_sai z102 72 (upd (tq_ai z102 72) (Int32.toNatClampNeg a6) (tq_ai z102 72 (Int32.toNatClampNeg (a6 - (1 : Int32))))) → ∀ v104 : Int32, v104 = a6 + (-1 : Int32) → B132 v104 z103))
def wc_X12_addPlace_132 (Q : tq_O → tq_S → Prop) (a1 : Int32) (a2 : Int64) (a4 : Int32) (a5 : Int32) (a6 : Int32) (z : tq_S) : Prop := tq_lp (σ := Int32 × tq_S) (fun B s => wb_X12_addPlace_132 (fun b6 z => B (b6, z)) Q a1 a2 a4 a5 s.1 s.2) (a6, z)
theorem ab_X12_addPlace_132 {K : Nat × (Nat → Int32)} {x : Nat} {Q : tq_O → tq_S → Prop} {B132 : Int32 → tq_S → Prop} {a1 : Int32} {a2 : Int64} {a4 : Int32} {a5 : Int32} {a6 : Int32} {z : tq_S} (hB132 : ∀ (b6 : Int32) (z : tq_S), B132 b6 z → tq_T K 1 x mm_X12_addPlace 132 [.ref 51, .int a1, .long a2, .null, .int a4, .int a5, .int b6] [] z Q) (h : wb_X12_addPlace_132 B132 Q a1 a2 a4 a5 a6 z) : tq_T K 1 x mm_X12_addPlace 132 [.ref 51, .int a1, .long a2, .null, .int a4, .int a5, .int a6] [] z Q := by
  unfold wb_X12_addPlace_132 at h
  refine tq_s_iload (i := 6) (by decide +kernel) rfl ?_
  refine tq_s_iload (i := 5) (by decide +kernel) rfl ?_
  refine tq_icmp_le (off := 57) (tgt := 193) (by decide +kernel) (by decide +kernel) (fun hc => ?_) (fun hc => ?_)
  · replace h := h.1 hc
    exact tq_to (tq_lk1 (tq_lk1 (tq_lk1 (tq_lk1 (tq_lk1 (tq_lk1 (tq_ld1 tq_l0))))))) (ac_X12_addPlace_193 h)
  · replace h := h.2 hc
    refine tq_s_aload_n (kk := 0) (by decide +kernel) rfl ?_
    refine fg_12_77_51 rfl (by decide +kernel) ?_
    refine tq_s_iload (i := 6) (by decide +kernel) rfl ?_
    refine tq_s_aload_n (kk := 0) (by decide +kernel) rfl ?_
    refine fg_12_77_51 rfl (by decide +kernel) ?_
    refine tq_s_iload (i := 6) (by decide +kernel) rfl ?_
    refine tq_k_ic (n := 1) (v := (1 : Int32)) (by decide +kernel) kc_1 ?_
    refine tq_s_isub (by decide +kernel) ?_
    refine tq_s_lald (by decide +kernel) sh_70 h.1 ?_
    replace h := h.2
    refine tq_g_last (by decide +kernel) sh_70 h.1 (fun z101 ez101 => ?_)
    replace h := h.2 z101 ez101
    refine tq_s_aload_n (kk := 0) (by decide +kernel) rfl ?_
    refine fg_12_80_51 rfl (by decide +kernel) ?_
    refine tq_s_iload (i := 6) (by decide +kernel) rfl ?_
    refine tq_s_aload_n (kk := 0) (by decide +kernel) rfl ?_
    refine fg_12_80_51 rfl (by decide +kernel) ?_
    refine tq_s_iload (i := 6) (by decide +kernel) rfl ?_
    refine tq_k_ic (n := 1) (v := (1 : Int32)) (by decide +kernel) kc_1 ?_
    refine tq_s_isub (by decide +kernel) ?_
    refine tq_s_iald (by decide +kernel) sh_71 h.1 ?_
    replace h := h.2
    refine tq_g_iast (by decide +kernel) sh_71 h.1 (fun z102 ez102 => ?_)
    replace h := h.2 z102 ez102
    refine tq_s_aload_n (kk := 0) (by decide +kernel) rfl ?_
    refine fg_12_83_51 rfl (by decide +kernel) ?_
    refine tq_s_iload (i := 6) (by decide +kernel) rfl ?_
    refine tq_s_aload_n (kk := 0) (by decide +kernel) rfl ?_
    refine fg_12_83_51 rfl (by decide +kernel) ?_
    refine tq_s_iload (i := 6) (by decide +kernel) rfl ?_
    refine tq_k_ic (n := 1) (v := (1 : Int32)) (by decide +kernel) kc_1 ?_
    refine tq_s_isub (by decide +kernel) ?_
    refine tq_s_iald (by decide +kernel) sh_72 h.1 ?_
    replace h := h.2
    refine tq_g_iast (by decide +kernel) sh_72 h.1 (fun z103 ez103 => ?_)
    replace h := h.2 z103 ez103
    refine tq_g_iinc (i := 6) (fun v104 => [.ref 51, .int a1, .long a2, .null, .int a4, .int a5, .int v104]) (by decide +kernel) rfl (-1 : Int32) kc_m1 (fun _ => rfl) (fun v104 ev104 => ?_)
    replace h := h v104 ev104
    refine tq_s_goto (off := -58) (tgt := 132) (by decide +kernel) (by decide +kernel) ?_
    exact hB132 _ _ h
theorem ac_X12_addPlace_132 {K : Nat × (Nat → Int32)} {x : Nat} {Q : tq_O → tq_S → Prop} {a1 : Int32} {a2 : Int64} {a4 : Int32} {a5 : Int32} {a6 : Int32} {z : tq_S} (h : wc_X12_addPlace_132 Q a1 a2 a4 a5 a6 z) : tq_T K 1 x mm_X12_addPlace 132 [.ref 51, .int a1, .long a2, .null, .int a4, .int a5, .int a6] [] z Q :=
  tq_lp_T (σ := Int32 × tq_S) (s := (a6, z)) (G := fun s => tq_T K 1 x mm_X12_addPlace 132 [.ref 51, .int a1, .long a2, .null, .int a4, .int a5, .int s.1] [] s.2 Q) (fun B hB s h => ab_X12_addPlace_132 (fun b6 z h => hB (b6, z) h) h) h
def wc_X12_addPlace_126 (Q : tq_O → tq_S → Prop) (a1 : Int32) (a2 : Int64) (a4 : Int32) (a5 : Int32) (z : tq_S) : Prop := ∀ v101 : Int32, v101 = (tq_fi z 3294) → wc_X12_addPlace_132 Q a1 a2 a4 a5 v101 z
theorem ac_X12_addPlace_126 {K : Nat × (Nat → Int32)} {x : Nat} {Q : tq_O → tq_S → Prop} {a1 : Int32} {a2 : Int64} {a4 : Int32} {a5 : Int32} {z : tq_S} (h : wc_X12_addPlace_126 Q a1 a2 a4 a5 z) : tq_T K 1 x mm_X12_addPlace 126 [.ref 51, .int a1, .long a2, .null, .int a4, .int a5, .null] [] z Q := by
  unfold wc_X12_addPlace_126 at h
  refine tq_s_aload_n (kk := 0) (by decide +kernel) rfl ?_
  refine fg_12_343_51 rfl (by decide +kernel) ?_
  refine tq_g_istore (i := 6) (fun v101 => [.ref 51, .int a1, .long a2, .null, .int a4, .int a5, .int v101]) (by decide +kernel) (by decide) (fun _ => rfl) (fun v101 ev101 => ?_)
  replace h := h v101 ev101
  exact ac_X12_addPlace_132 h
def wc_X12_addPlace_93 (Q : tq_O → tq_S → Prop) (a1 : Int32) (a2 : Int64) (a4 : Int32) (a5 : Int32) (z : tq_S) : Prop := ((a5 ≤ 0 → wc_X12_addPlace_126 Q a1 a2 a4 a5 z) ∧ (¬ a5 ≤ 0 → vp_in (a5 - (1 : Int32)) 4096 ∧ ((¬ (tq_ai z 71 (Int32.toNatClampNeg (a5 - (1 : Int32)))) = a1 → wc_X12_addPlace_126 Q a1 a2 a4 a5 z) ∧ ((tq_ai z 71 (Int32.toNatClampNeg (a5 - (1 : Int32)))) = a1 → vp_in (a5 - (1 : Int32)) 4096 ∧ ((¬ (tq_al z 70 (Int32.toNatClampNeg (a5 - (1 : Int32)))) = a2 → wc_X12_addPlace_126 Q a1 a2 a4 a5 z) ∧ ((tq_al z 70 (Int32.toNatClampNeg (a5 - (1 : Int32)))) = a2 → Q (.inl none) z))))))
theorem ac_X12_addPlace_93 {K : Nat × (Nat → Int32)} {x : Nat} {Q : tq_O → tq_S → Prop} {a1 : Int32} {a2 : Int64} {a4 : Int32} {a5 : Int32} {z : tq_S} (h : wc_X12_addPlace_93 Q a1 a2 a4 a5 z) : tq_T K 1 x mm_X12_addPlace 93 [.ref 51, .int a1, .long a2, .null, .int a4, .int a5, .null] [] z Q := by
  unfold wc_X12_addPlace_93 at h
  refine tq_s_iload (i := 5) (by decide +kernel) rfl ?_
  refine tq_if_le (off := 31) (tgt := 126) (by decide +kernel) (by decide +kernel) (fun hc => ?_) (fun hc => ?_)
  · replace h := h.1 hc
    exact ac_X12_addPlace_126 h
  · replace h := h.2 hc
    refine tq_s_aload_n (kk := 0) (by decide +kernel) rfl ?_
    refine fg_12_80_51 rfl (by decide +kernel) ?_
    refine tq_s_iload (i := 5) (by decide +kernel) rfl ?_
    refine tq_k_ic (n := 1) (v := (1 : Int32)) (by decide +kernel) kc_1 ?_
    refine tq_s_isub (by decide +kernel) ?_
    refine tq_s_iald (by decide +kernel) sh_71 h.1 ?_
    replace h := h.2
    refine tq_s_iload_n (kk := 1) (by decide +kernel) rfl ?_
    refine tq_icmp_ne (off := 18) (tgt := 126) (by decide +kernel) (by decide +kernel) (fun hc => ?_) (fun hc => ?_)
    · replace h := h.1 hc
      exact ac_X12_addPlace_126 h
    · replace h := h.2 hc
      refine tq_s_aload_n (kk := 0) (by decide +kernel) rfl ?_
      refine fg_12_77_51 rfl (by decide +kernel) ?_
      refine tq_s_iload (i := 5) (by decide +kernel) rfl ?_
      refine tq_k_ic (n := 1) (v := (1 : Int32)) (by decide +kernel) kc_1 ?_
      refine tq_s_isub (by decide +kernel) ?_
      refine tq_s_lald (by decide +kernel) sh_70 h.1 ?_
      replace h := h.2
      refine tq_s_lload_n (kk := 2) (by decide +kernel) rfl ?_
      refine tq_lcmp_ne (off := 4) (tgt := 126) (by decide +kernel) (by decide +kernel) (by decide +kernel) (fun hc => ?_) (fun hc => ?_)
      · replace h := h.1 hc
        exact ac_X12_addPlace_126 h
      · replace h := h.2 hc
        exact tq_ret_v (st := []) (by decide +kernel) rfl h
def wb_X12_addPlace_12 (B12 : Int32 → tq_S → Prop) (Q : tq_O → tq_S → Prop) (a1 : Int32) (a2 : Int64) (a4 : Int32) (a5 : Int32) (z : tq_S) : Prop := ((a5 ≤ 0 → wc_X12_addPlace_93 Q a1 a2 a4 a5 z) ∧ (¬ a5 ≤ 0 → vp_in (a5 - (1 : Int32)) 4096 ∧ ((a4 < (tq_ai z 72 (Int32.toNatClampNeg (a5 - (1 : Int32)))) → wc_X12_addPlace_87 B12 Q a1 a2 a4 a5 z) ∧ (¬ a4 < (tq_ai z 72 (Int32.toNatClampNeg (a5 - (1 : Int32)))) → vp_in (a5 - (1 : Int32)) 4096 ∧ ((¬ (tq_ai z 72 (Int32.toNatClampNeg (a5 - (1 : Int32)))) = a4 → wc_X12_addPlace_93 Q a1 a2 a4 a5 z) ∧ ((tq_ai z 72 (Int32.toNatClampNeg (a5 - (1 : Int32)))) = a4 → vp_in (a5 - (1 : Int32)) 4096 ∧ ((a1 < (tq_ai z 71 (Int32.toNatClampNeg (a5 - (1 : Int32)))) → wc_X12_addPlace_87 B12 Q a1 a2 a4 a5 z) ∧ (¬ a1 < (tq_ai z 71 (Int32.toNatClampNeg (a5 - (1 : Int32)))) → vp_in (a5 - (1 : Int32)) 4096 ∧ ((¬ (tq_ai z 71 (Int32.toNatClampNeg (a5 - (1 : Int32)))) = a1 → wc_X12_addPlace_93 Q a1 a2 a4 a5 z) ∧ ((tq_ai z 71 (Int32.toNatClampNeg (a5 - (1 : Int32)))) = a1 → vp_in (a5 - (1 : Int32)) 4096 ∧ wm_X12_isAhead a2 (tq_al z 70 (Int32.toNatClampNeg (a5 - (1 : Int32)))) z (tq_wi fun r102 z101 => ((r102 = 0 → wc_X12_addPlace_93 Q a1 a2 a4 a5 z101) ∧ (¬ r102 = 0 → wc_X12_addPlace_87 B12 Q a1 a2 a4 a5 z101)))))))))))))
def wc_X12_addPlace_12 (Q : tq_O → tq_S → Prop) (a1 : Int32) (a2 : Int64) (a4 : Int32) (a5 : Int32) (z : tq_S) : Prop := tq_lp (σ := Int32 × tq_S) (fun B s => wb_X12_addPlace_12 (fun b5 z => B (b5, z)) Q a1 a2 a4 s.1 s.2) (a5, z)
theorem ab_X12_addPlace_12 {K : Nat × (Nat → Int32)} {x : Nat} {Q : tq_O → tq_S → Prop} {B12 : Int32 → tq_S → Prop} {a1 : Int32} {a2 : Int64} {a4 : Int32} {a5 : Int32} {z : tq_S} (hB12 : ∀ (b5 : Int32) (z : tq_S), B12 b5 z → tq_T K 1 x mm_X12_addPlace 12 [.ref 51, .int a1, .long a2, .null, .int a4, .int b5, .null] [] z Q) (h : wb_X12_addPlace_12 B12 Q a1 a2 a4 a5 z) : tq_T K 1 x mm_X12_addPlace 12 [.ref 51, .int a1, .long a2, .null, .int a4, .int a5, .null] [] z Q := by
  unfold wb_X12_addPlace_12 at h
  refine tq_s_iload (i := 5) (by decide +kernel) rfl ?_
  refine tq_if_le (off := 79) (tgt := 93) (by decide +kernel) (by decide +kernel) (fun hc => ?_) (fun hc => ?_)
  · replace h := h.1 hc
    exact ac_X12_addPlace_93 h
  · replace h := h.2 hc
    refine tq_s_aload_n (kk := 0) (by decide +kernel) rfl ?_
    refine fg_12_83_51 rfl (by decide +kernel) ?_
    refine tq_s_iload (i := 5) (by decide +kernel) rfl ?_
    refine tq_k_ic (n := 1) (v := (1 : Int32)) (by decide +kernel) kc_1 ?_
    refine tq_s_isub (by decide +kernel) ?_
    refine tq_s_iald (by decide +kernel) sh_72 h.1 ?_
    replace h := h.2
    refine tq_s_iload (i := 4) (by decide +kernel) rfl ?_
    refine tq_icmp_gt (off := 59) (tgt := 87) (by decide +kernel) (by decide +kernel) (fun hc => ?_) (fun hc => ?_)
    · replace h := h.1 hc
      exact ac_X12_addPlace_87 hB12 h
    · replace h := h.2 hc
      refine tq_s_aload_n (kk := 0) (by decide +kernel) rfl ?_
      refine fg_12_83_51 rfl (by decide +kernel) ?_
      refine tq_s_iload (i := 5) (by decide +kernel) rfl ?_
      refine tq_k_ic (n := 1) (v := (1 : Int32)) (by decide +kernel) kc_1 ?_
      refine tq_s_isub (by decide +kernel) ?_
      refine tq_s_iald (by decide +kernel) sh_72 h.1 ?_
      replace h := h.2
      refine tq_s_iload (i := 4) (by decide +kernel) rfl ?_
      refine tq_icmp_ne (off := 51) (tgt := 93) (by decide +kernel) (by decide +kernel) (fun hc => ?_) (fun hc => ?_)
      · replace h := h.1 hc
        exact ac_X12_addPlace_93 h
      · replace h := h.2 hc
        refine tq_s_aload_n (kk := 0) (by decide +kernel) rfl ?_
        refine fg_12_80_51 rfl (by decide +kernel) ?_
        refine tq_s_iload (i := 5) (by decide +kernel) rfl ?_
        refine tq_k_ic (n := 1) (v := (1 : Int32)) (by decide +kernel) kc_1 ?_
        refine tq_s_isub (by decide +kernel) ?_
        refine tq_s_iald (by decide +kernel) sh_71 h.1 ?_
        replace h := h.2
        refine tq_s_iload_n (kk := 1) (by decide +kernel) rfl ?_
        refine tq_icmp_gt (off := 32) (tgt := 87) (by decide +kernel) (by decide +kernel) (fun hc => ?_) (fun hc => ?_)
        · replace h := h.1 hc
          exact ac_X12_addPlace_87 hB12 h
        · replace h := h.2 hc
          refine tq_s_aload_n (kk := 0) (by decide +kernel) rfl ?_
          refine fg_12_80_51 rfl (by decide +kernel) ?_
          refine tq_s_iload (i := 5) (by decide +kernel) rfl ?_
          refine tq_k_ic (n := 1) (v := (1 : Int32)) (by decide +kernel) kc_1 ?_
          refine tq_s_isub (by decide +kernel) ?_
          refine tq_s_iald (by decide +kernel) sh_71 h.1 ?_
          replace h := h.2
          refine tq_s_iload_n (kk := 1) (by decide +kernel) rfl ?_
          refine tq_icmp_ne (off := 25) (tgt := 93) (by decide +kernel) (by decide +kernel) (fun hc => ?_) (fun hc => ?_)
          · replace h := h.1 hc
            exact ac_X12_addPlace_93 h
          · replace h := h.2 hc
            refine tq_s_lload_n (kk := 2) (by decide +kernel) rfl ?_
            refine tq_s_aload_n (kk := 0) (by decide +kernel) rfl ?_
            refine fg_12_77_51 rfl (by decide +kernel) ?_
            refine tq_s_iload (i := 5) (by decide +kernel) rfl ?_
            refine tq_k_ic (n := 1) (v := (1 : Int32)) (by decide +kernel) kc_1 ?_
            refine tq_s_isub (by decide +kernel) ?_
            refine tq_s_lald (by decide +kernel) sh_70 h.1 ?_
            replace h := h.2
            refine tq_callS (as := [.long a2, .long (tq_al z 70 (Int32.toNatClampNeg (a5 - (1 : Int32))))]) (st := []) (d1 := 0) (x1 := 0) (x2 := x) (by decide +kernel) ln_12_346 mf_X12_isAhead rfl (by decide) np_X12_isAhead rfl (Nat.le_of_ble_eq_true rfl) (by decide) (Nat.zero_add _).symm (tq_M_mono (am_X12_isAhead h) ?_)
            refine tq_wi_e (fun r102 z101 h => ?_)
            refine tq_if_eq (off := 9) (tgt := 93) (by decide +kernel) (by decide +kernel) (fun hc => ?_) (fun hc => ?_)
            · replace h := h.1 hc
              exact ac_X12_addPlace_93 h
            · replace h := h.2 hc
              exact ac_X12_addPlace_87 hB12 h
theorem ac_X12_addPlace_12 {K : Nat × (Nat → Int32)} {x : Nat} {Q : tq_O → tq_S → Prop} {a1 : Int32} {a2 : Int64} {a4 : Int32} {a5 : Int32} {z : tq_S} (h : wc_X12_addPlace_12 Q a1 a2 a4 a5 z) : tq_T K 1 x mm_X12_addPlace 12 [.ref 51, .int a1, .long a2, .null, .int a4, .int a5, .null] [] z Q :=
  tq_lp_T (σ := Int32 × tq_S) (s := (a5, z)) (G := fun s => tq_T K 1 x mm_X12_addPlace 12 [.ref 51, .int a1, .long a2, .null, .int a4, .int s.1, .null] [] s.2 Q) (fun B hB s h => ab_X12_addPlace_12 (fun b5 z h => hB (b5, z) h) h) h
def wm_X12_addPlace (a1 : Int32) (a2 : Int64) (z : tq_S) (Q : tq_O → tq_S → Prop) : Prop := wm_X12_lowest a2 z (tq_wi fun r2 z1 => ∀ v3 : Int32, v3 = (tq_fi z1 3294) → wc_X12_addPlace_12 Q a1 a2 r2 v3 z1)
theorem am_X12_addPlace {K : Nat × (Nat → Int32)} {x : Nat} {z : tq_S} {Q : tq_O → tq_S → Prop} {a1 : Int32} {a2 : Int64} (h : wm_X12_addPlace a1 a2 z Q) : tq_M K 1 x mm_X12_addPlace [.ref 51, .int a1, .long a2] z Q := by
  unfold wm_X12_addPlace at h
  refine tq_enter (L := [.ref 51, .int a1, .long a2, .null, .null, .null, .null]) mf_X12_addPlace.1 rfl rfl (Nat.le_of_ble_eq_true rfl) ?_
  refine tq_s_lload_n (kk := 2) (by decide +kernel) rfl ?_
  refine tq_callS (as := [.long a2]) (st := []) (d1 := 0) (x1 := 0) (x2 := x) (by decide +kernel) ln_12_340 mf_X12_lowest rfl (by decide) np_X12_lowest rfl (Nat.le_of_ble_eq_true rfl) (by decide) (Nat.zero_add _).symm (tq_M_mono (am_X12_lowest h) ?_)
  refine tq_wi_e (fun r2 z1 h => ?_)
  refine tq_s_istore (i := 4) (L9 := [.ref 51, .int a1, .long a2, .null, .int r2, .null, .null]) (by decide +kernel) (by decide) rfl ?_
  refine tq_s_aload_n (kk := 0) (by decide +kernel) rfl ?_
  refine fg_12_343_51 rfl (by decide +kernel) ?_
  refine tq_g_istore (i := 5) (fun v3 => [.ref 51, .int a1, .long a2, .null, .int r2, .int v3, .null]) (by decide +kernel) (by decide) (fun _ => rfl) (fun v3 ev3 => ?_)
  replace h := h v3 ev3
  exact ac_X12_addPlace_12 h
def wc_X12_laid_110 (B6 : Int64 → Int32 → tq_S → Prop) (Q : tq_O → tq_S → Prop) (a1 : Int64) (a3 : Int32) (a4 : Int32) (a5 : Int64) (a7 : Int32) (z : tq_S) : Prop := ∀ v101 : Int32, v101 = a7 + (1 : Int32) → B6 a5 v101 z
theorem ac_X12_laid_110 {K : Nat × (Nat → Int32)} {x : Nat} {Q : tq_O → tq_S → Prop} {B6 : Int64 → Int32 → tq_S → Prop} {a1 : Int64} {a3 : Int32} {a4 : Int32} {a5 : Int64} {a7 : Int32} {z : tq_S} (hB6 : ∀ (b5 : Int64) (b7 : Int32) (z : tq_S), B6 b5 b7 z → tq_T K 2 x mm_X12_laid 6 [.ref 51, .long a1, .null, .int a3, .int a4, .long b5, .null, .int b7, .null, .null] [] z Q) (h : wc_X12_laid_110 B6 Q a1 a3 a4 a5 a7 z) : tq_T K 2 x mm_X12_laid 110 [.ref 51, .long a1, .null, .int a3, .int a4, .long a5, .null, .int a7, .null, .null] [] z Q := by
  unfold wc_X12_laid_110 at h
  refine tq_g_iinc (i := 7) (fun v101 => [.ref 51, .long a1, .null, .int a3, .int a4, .long a5, .null, .int v101, .null, .null]) (by decide +kernel) rfl (1 : Int32) kc_1 (fun _ => rfl) (fun v101 ev101 => ?_)
  replace h := h v101 ev101
  refine tq_s_goto (off := -107) (tgt := 6) (by decide +kernel) (by decide +kernel) ?_
  exact hB6 _ _ _ h
def wc_X12_laid_62 (B6 : Int64 → Int32 → tq_S → Prop) (Q : tq_O → tq_S → Prop) (a1 : Int64) (a3 : Int32) (a4 : Int32) (a5 : Int64) (a7 : Int32) (a9 : Int32) (s0 : Int32) (z : tq_S) : Prop := wm_X12_isCell s0 a9 z (tq_wi fun r102 z101 => ((r102 = 0 → Q (.inl (some (.long (0 : Int64)))) z101) ∧ (¬ r102 = 0 → ((¬ (((Int64.toUInt64 a5) >>> ((Int32.toInt64 (((8 : Int32) * a9) + s0)).toUInt64 &&& Int64.toUInt64 63)).toInt64 &&& (1 : Int64)) = (1 : Int64) → ∀ v103 : Int64, v103 = (a5 ||| ((1 : Int64) <<< ((Int32.toInt64 (((8 : Int32) * a9) + s0)) &&& 63))) → wc_X12_laid_110 B6 Q a1 a3 a4 v103 a7 z101) ∧ ((((Int64.toUInt64 a5) >>> ((Int32.toInt64 (((8 : Int32) * a9) + s0)).toUInt64 &&& Int64.toUInt64 63)).toInt64 &&& (1 : Int64)) = (1 : Int64) → Q (.inl (some (.long (0 : Int64)))) z101)))))
theorem ac_X12_laid_62 {K : Nat × (Nat → Int32)} {x : Nat} {Q : tq_O → tq_S → Prop} {B6 : Int64 → Int32 → tq_S → Prop} {a1 : Int64} {a3 : Int32} {a4 : Int32} {a5 : Int64} {a7 : Int32} {a9 : Int32} {s0 : Int32} {z : tq_S} (hB6 : ∀ (b5 : Int64) (b7 : Int32) (z : tq_S), B6 b5 b7 z → tq_T K 2 x mm_X12_laid 6 [.ref 51, .long a1, .null, .int a3, .int a4, .long b5, .null, .int b7, .null, .null] [] z Q) (h : wc_X12_laid_62 B6 Q a1 a3 a4 a5 a7 a9 s0 z) : tq_T K 2 x mm_X12_laid 62 [.ref 51, .long a1, .null, .int a3, .int a4, .long a5, .null, .int a7, .null, .int a9] [.int s0] z Q := by
  unfold wc_X12_laid_62 at h
  refine tq_s_istore (i := 8) (L9 := [.ref 51, .long a1, .null, .int a3, .int a4, .long a5, .null, .int a7, .int s0, .int a9]) (by decide +kernel) (by decide) rfl ?_
  refine tq_s_aload_n (kk := 0) (by decide +kernel) rfl ?_
  refine tq_s_iload (i := 8) (by decide +kernel) rfl ?_
  refine tq_s_iload (i := 9) (by decide +kernel) rfl ?_
  refine tq_callV (as := [.int s0, .int a9]) (st := []) (d1 := 1) (x1 := 0) (x2 := x) (by decide +kernel) ln_12_164 mf_X12_isCell rfl sh_51 rfl (by decide) np_X12_isCell rfl (Nat.le_of_ble_eq_true rfl) (by decide) (Nat.zero_add _).symm (tq_M_mono (am_X12_isCell h) ?_)
  refine tq_wi_e (fun r102 z101 h => ?_)
  refine tq_if_eq (off := 21) (tgt := 93) (by decide +kernel) (by decide +kernel) (fun hc => ?_) (fun hc => ?_)
  · replace h := h.1 hc
    refine tq_k_lc (n := 0) (v := (0 : Int64)) (by decide +kernel) (by decide +kernel) ?_
    exact tq_ret_l (st := []) (by decide +kernel) rfl h
  · replace h := h.2 hc
    refine tq_s_lload (i := 5) (by decide +kernel) rfl ?_
    refine tq_k_bi (n := 8) (v := (8 : Int32)) (by decide +kernel) kb_8 ?_
    refine tq_s_iload (i := 9) (by decide +kernel) rfl ?_
    refine tq_s_imul (by decide +kernel) ?_
    refine tq_s_iload (i := 8) (by decide +kernel) rfl ?_
    refine tq_s_iadd (by decide +kernel) ?_
    refine tq_s_lushr (by decide +kernel) ?_
    refine tq_k_lc (n := 1) (v := (1 : Int64)) (by decide +kernel) (by decide +kernel) ?_
    refine tq_s_land (by decide +kernel) ?_
    refine tq_k_lc (n := 1) (v := (1 : Int64)) (by decide +kernel) (by decide +kernel) ?_
    refine tq_lcmp_ne (off := 5) (tgt := 95) (by decide +kernel) (by decide +kernel) (by decide +kernel) (fun hc => ?_) (fun hc => ?_)
    · replace h := h.1 hc
      refine tq_s_lload (i := 5) (by decide +kernel) rfl ?_
      refine tq_k_lc (n := 1) (v := (1 : Int64)) (by decide +kernel) (by decide +kernel) ?_
      refine tq_k_bi (n := 8) (v := (8 : Int32)) (by decide +kernel) kb_8 ?_
      refine tq_s_iload (i := 9) (by decide +kernel) rfl ?_
      refine tq_s_imul (by decide +kernel) ?_
      refine tq_s_iload (i := 8) (by decide +kernel) rfl ?_
      refine tq_s_iadd (by decide +kernel) ?_
      refine tq_s_lshl (by decide +kernel) ?_
      refine tq_s_lor (by decide +kernel) ?_
      refine tq_g_lstore (i := 5) (fun v103 => [.ref 51, .long a1, .null, .int a3, .int a4, .long v103, .null, .int a7, .int s0, .int a9]) (by decide +kernel) (by decide) (fun _ => rfl) (fun v103 ev103 => ?_)
      replace h := h v103 ev103
      exact tq_to (tq_lk1 (tq_lk1 (tq_lk1 (tq_lk1 (tq_lk1 (tq_lk1 (tq_lk1 (tq_lk1 (tq_ld1 (tq_ld1 tq_l0)))))))))) (ac_X12_laid_110 hB6 h)
    · replace h := h.2 hc
      refine tq_k_lc (n := 0) (v := (0 : Int64)) (by decide +kernel) (by decide +kernel) ?_
      exact tq_ret_l (st := []) (by decide +kernel) rfl h
def wb_X12_laid_6 (B6 : Int64 → Int32 → tq_S → Prop) (Q : tq_O → tq_S → Prop) (a1 : Int64) (a3 : Int32) (a4 : Int32) (a5 : Int64) (a7 : Int32) (z : tq_S) : Prop := (((36 : Int32) ≤ a7 → Q (.inl (some (.long a5))) z) ∧ (¬ (36 : Int32) ≤ a7 → ((¬ ((a1 >>> ((Int32.toInt64 a7) &&& 63)) &&& (1 : Int64)) = (1 : Int64) → wc_X12_laid_110 B6 Q a1 a3 a4 a5 a7 z) ∧ (((a1 >>> ((Int32.toInt64 a7) &&& 63)) &&& (1 : Int64)) = (1 : Int64) → ∀ v101 : Int32, v101 = (a3 + (a7 - a7 / (6 : Int32) * (6 : Int32))) → ∀ v102 : Int32, v102 = (a4 + (a7 / (6 : Int32))) → (((tq_fi z 3267) = 0 → wc_X12_laid_62 B6 Q a1 a3 a4 a5 a7 v102 v101 z) ∧ (¬ (tq_fi z 3267) = 0 → (¬ (tq_fi z 3265) = 0) ∧ wc_X12_laid_62 B6 Q a1 a3 a4 a5 a7 v102 (v101 - v101 / (tq_fi z 3265) * (tq_fi z 3265)) z))))))
def wc_X12_laid_6 (Q : tq_O → tq_S → Prop) (a1 : Int64) (a3 : Int32) (a4 : Int32) (a5 : Int64) (a7 : Int32) (z : tq_S) : Prop := tq_lp (σ := Int64 × Int32 × tq_S) (fun B s => wb_X12_laid_6 (fun b5 b7 z => B (b5, b7, z)) Q a1 a3 a4 s.1 s.2.1 s.2.2) (a5, a7, z)
theorem ab_X12_laid_6 {K : Nat × (Nat → Int32)} {x : Nat} {Q : tq_O → tq_S → Prop} {B6 : Int64 → Int32 → tq_S → Prop} {a1 : Int64} {a3 : Int32} {a4 : Int32} {a5 : Int64} {a7 : Int32} {z : tq_S} (hB6 : ∀ (b5 : Int64) (b7 : Int32) (z : tq_S), B6 b5 b7 z → tq_T K 2 x mm_X12_laid 6 [.ref 51, .long a1, .null, .int a3, .int a4, .long b5, .null, .int b7, .null, .null] [] z Q) (h : wb_X12_laid_6 B6 Q a1 a3 a4 a5 a7 z) : tq_T K 2 x mm_X12_laid 6 [.ref 51, .long a1, .null, .int a3, .int a4, .long a5, .null, .int a7, .null, .null] [] z Q := by
  unfold wb_X12_laid_6 at h
  refine tq_s_iload (i := 7) (by decide +kernel) rfl ?_
  refine tq_k_bi (n := 36) (v := (36 : Int32)) (by decide +kernel) kb_36 ?_
  refine tq_icmp_ge (off := 106) (tgt := 116) (by decide +kernel) (by decide +kernel) (fun hc => ?_) (fun hc => ?_)
  · replace h := h.1 hc
    refine tq_s_lload (i := 5) (by decide +kernel) rfl ?_
    exact tq_ret_l (st := []) (by decide +kernel) rfl h
  · replace h := h.2 hc
    refine tq_s_lload_n (kk := 1) (by decide +kernel) rfl ?_
    refine tq_s_iload (i := 7) (by decide +kernel) rfl ?_
    refine tq_s_lshr (by decide +kernel) ?_
    refine tq_k_lc (n := 1) (v := (1 : Int64)) (by decide +kernel) (by decide +kernel) ?_
    refine tq_s_land (by decide +kernel) ?_
    refine tq_k_lc (n := 1) (v := (1 : Int64)) (by decide +kernel) (by decide +kernel) ?_
    refine tq_lcmp_ne (off := 89) (tgt := 110) (by decide +kernel) (by decide +kernel) (by decide +kernel) (fun hc => ?_) (fun hc => ?_)
    · replace h := h.1 hc
      exact ac_X12_laid_110 hB6 h
    · replace h := h.2 hc
      refine tq_s_iload_n (kk := 3) (by decide +kernel) rfl ?_
      refine tq_s_iload (i := 7) (by decide +kernel) rfl ?_
      refine tq_k_bi (n := 6) (v := (6 : Int32)) (by decide +kernel) kb_6 ?_
      refine tq_s_irem (by decide +kernel) (by decide +kernel) ?_
      refine tq_s_iadd (by decide +kernel) ?_
      refine tq_g_istore (i := 8) (fun v101 => [.ref 51, .long a1, .null, .int a3, .int a4, .long a5, .null, .int a7, .int v101, .null]) (by decide +kernel) (by decide) (fun _ => rfl) (fun v101 ev101 => ?_)
      replace h := h v101 ev101
      refine tq_s_iload (i := 4) (by decide +kernel) rfl ?_
      refine tq_s_iload (i := 7) (by decide +kernel) rfl ?_
      refine tq_k_bi (n := 6) (v := (6 : Int32)) (by decide +kernel) kb_6 ?_
      refine tq_s_idiv (by decide +kernel) (by decide +kernel) ?_
      refine tq_s_iadd (by decide +kernel) ?_
      refine tq_g_istore (i := 9) (fun v102 => [.ref 51, .long a1, .null, .int a3, .int a4, .long a5, .null, .int a7, .int v101, .int v102]) (by decide +kernel) (by decide) (fun _ => rfl) (fun v102 ev102 => ?_)
      replace h := h v102 ev102
      refine tq_s_aload_n (kk := 0) (by decide +kernel) rfl ?_
      refine fg_12_142_51 rfl (by decide +kernel) ?_
      refine tq_if_eq (off := 13) (tgt := 60) (by decide +kernel) (by decide +kernel) (fun hc => ?_) (fun hc => ?_)
      · replace h := h.1 hc
        refine tq_s_iload (i := 8) (by decide +kernel) rfl ?_
        exact tq_to (tq_lk1 (tq_lk1 (tq_lk1 (tq_lk1 (tq_lk1 (tq_lk1 (tq_lk1 (tq_lk1 (tq_ld1 (tq_lk1 tq_l0)))))))))) (ac_X12_laid_62 hB6 h)
      · replace h := h.2 hc
        refine tq_s_iload (i := 8) (by decide +kernel) rfl ?_
        refine tq_s_aload_n (kk := 0) (by decide +kernel) rfl ?_
        refine fg_12_7_51 rfl (by decide +kernel) ?_
        refine tq_s_irem (by decide +kernel) h.1 ?_
        replace h := h.2
        refine tq_s_goto (off := 5) (tgt := 62) (by decide +kernel) (by decide +kernel) ?_
        exact tq_to (tq_lk1 (tq_lk1 (tq_lk1 (tq_lk1 (tq_lk1 (tq_lk1 (tq_lk1 (tq_lk1 (tq_ld1 (tq_lk1 tq_l0)))))))))) (ac_X12_laid_62 hB6 h)
theorem ac_X12_laid_6 {K : Nat × (Nat → Int32)} {x : Nat} {Q : tq_O → tq_S → Prop} {a1 : Int64} {a3 : Int32} {a4 : Int32} {a5 : Int64} {a7 : Int32} {z : tq_S} (h : wc_X12_laid_6 Q a1 a3 a4 a5 a7 z) : tq_T K 2 x mm_X12_laid 6 [.ref 51, .long a1, .null, .int a3, .int a4, .long a5, .null, .int a7, .null, .null] [] z Q :=
  tq_lp_T (σ := Int64 × Int32 × tq_S) (s := (a5, a7, z)) (G := fun s => tq_T K 2 x mm_X12_laid 6 [.ref 51, .long a1, .null, .int a3, .int a4, .long s.1, .null, .int s.2.1, .null, .null] [] s.2.2 Q) (fun B hB s h => ab_X12_laid_6 (fun b5 b7 z h => hB (b5, b7, z) h) h) h
def wm_X12_laid (a1 : Int64) (a3 : Int32) (a4 : Int32) (z : tq_S) (Q : tq_O → tq_S → Prop) : Prop := wc_X12_laid_6 Q a1 a3 a4 (0 : Int64) (0 : Int32) z
theorem am_X12_laid {K : Nat × (Nat → Int32)} {x : Nat} {z : tq_S} {Q : tq_O → tq_S → Prop} {a1 : Int64} {a3 : Int32} {a4 : Int32} (h : wm_X12_laid a1 a3 a4 z Q) : tq_M K 2 x mm_X12_laid [.ref 51, .long a1, .int a3, .int a4] z Q := by
  unfold wm_X12_laid at h
  refine tq_enter (L := [.ref 51, .long a1, .null, .int a3, .int a4, .null, .null, .null, .null, .null]) mf_X12_laid.1 rfl rfl (Nat.le_of_ble_eq_true rfl) ?_
  refine tq_k_lc (n := 0) (v := (0 : Int64)) (by decide +kernel) (by decide +kernel) ?_
  refine tq_s_lstore (i := 5) (L9 := [.ref 51, .long a1, .null, .int a3, .int a4, .long (0 : Int64), .null, .null, .null, .null]) (by decide +kernel) (by decide) rfl ?_
  refine tq_k_ic (n := 0) (v := (0 : Int32)) (by decide +kernel) kc_0 ?_
  refine tq_s_istore (i := 7) (L9 := [.ref 51, .long a1, .null, .int a3, .int a4, .long (0 : Int64), .null, .int (0 : Int32), .null, .null]) (by decide +kernel) (by decide) rfl ?_
  exact ac_X12_laid_6 h
def wc_X12_tellPlaces_39 (B12 : Int32 → tq_S → Prop) (Q : tq_O → tq_S → Prop) (a1 : Int32) (s0 : Int64) (s1 : Int64) (z : tq_S) : Prop := ∀ z101 : tq_S, z101 = tq_sfl z 3306 (s1 ||| s0) → ∀ v102 : Int32, v102 = a1 + (1 : Int32) → B12 v102 z101
theorem ac_X12_tellPlaces_39 {K : Nat × (Nat → Int32)} {x : Nat} {Q : tq_O → tq_S → Prop} {B12 : Int32 → tq_S → Prop} {a1 : Int32} {s0 : Int64} {s1 : Int64} {z : tq_S} (hB12 : ∀ (b1 : Int32) (z : tq_S), B12 b1 z → tq_T K 3 x mm_X12_tellPlaces 12 [.ref 51, .int b1, .null, .null, .null, .null] [] z Q) (h : wc_X12_tellPlaces_39 B12 Q a1 s0 s1 z) : tq_T K 3 x mm_X12_tellPlaces 39 [.ref 51, .int a1, .null, .null, .null, .null] [.long s0, .long s1, .ref 51] z Q := by
  unfold wc_X12_tellPlaces_39 at h
  refine tq_s_lor (by decide +kernel) ?_
  refine fp_12_350_51 rfl (by decide +kernel) (fun z101 ez101 => ?_)
  replace h := h z101 ez101
  refine tq_g_iinc (i := 1) (fun v102 => [.ref 51, .int v102, .null, .null, .null, .null]) (by decide +kernel) rfl (1 : Int32) kc_1 (fun _ => rfl) (fun v102 ev102 => ?_)
  replace h := h v102 ev102
  refine tq_s_goto (off := -34) (tgt := 12) (by decide +kernel) (by decide +kernel) ?_
  exact hB12 _ _ h
def wc_X12_tellPlaces_156 (B51 : Int32 → tq_S → Prop) (B73 : Int32 → tq_S → Prop) (B85 : Int32 → tq_S → Prop) (Q : tq_O → tq_S → Prop) (a1 : Int32) (a2 : Int32) (a3 : Int32) (z : tq_S) : Prop := ∀ v101 : Int32, v101 = a3 + (1 : Int32) → B85 v101 z
theorem ac_X12_tellPlaces_156 {K : Nat × (Nat → Int32)} {x : Nat} {Q : tq_O → tq_S → Prop} {B51 : Int32 → tq_S → Prop} {B73 : Int32 → tq_S → Prop} {B85 : Int32 → tq_S → Prop} {a1 : Int32} {a2 : Int32} {a3 : Int32} {z : tq_S} (hB51 : ∀ (b1 : Int32) (z : tq_S), B51 b1 z → tq_T K 3 x mm_X12_tellPlaces 51 [.ref 51, .int b1, .null, .null, .null, .null] [] z Q) (hB73 : ∀ (b2 : Int32) (z : tq_S), B73 b2 z → tq_T K 3 x mm_X12_tellPlaces 73 [.ref 51, .int a1, .int b2, .null, .null, .null] [] z Q) (hB85 : ∀ (b3 : Int32) (z : tq_S), B85 b3 z → tq_T K 3 x mm_X12_tellPlaces 85 [.ref 51, .int a1, .int a2, .int b3, .null, .null] [] z Q) (h : wc_X12_tellPlaces_156 B51 B73 B85 Q a1 a2 a3 z) : tq_T K 3 x mm_X12_tellPlaces 156 [.ref 51, .int a1, .int a2, .int a3, .null, .null] [] z Q := by
  unfold wc_X12_tellPlaces_156 at h
  refine tq_g_iinc (i := 3) (fun v101 => [.ref 51, .int a1, .int a2, .int v101, .null, .null]) (by decide +kernel) rfl (1 : Int32) kc_1 (fun _ => rfl) (fun v101 ev101 => ?_)
  replace h := h v101 ev101
  refine tq_s_goto (off := -74) (tgt := 85) (by decide +kernel) (by decide +kernel) ?_
  exact hB85 _ _ h
def wc_X12_tellPlaces_140 (B51 : Int32 → tq_S → Prop) (B73 : Int32 → tq_S → Prop) (B85 : Int32 → tq_S → Prop) (Q : tq_O → tq_S → Prop) (a1 : Int32) (a2 : Int32) (a3 : Int32) (s0 : Int64) (z : tq_S) : Prop := ((s0 = (0 : Int64) → wc_X12_tellPlaces_156 B51 B73 B85 Q a1 a2 a3 z) ∧ (¬ s0 = (0 : Int64) → wm_X12_addPlace a1 s0 z (tq_wv fun z101 => wc_X12_tellPlaces_156 B51 B73 B85 Q a1 a2 a3 z101)))
theorem ac_X12_tellPlaces_140 {K : Nat × (Nat → Int32)} {x : Nat} {Q : tq_O → tq_S → Prop} {B51 : Int32 → tq_S → Prop} {B73 : Int32 → tq_S → Prop} {B85 : Int32 → tq_S → Prop} {a1 : Int32} {a2 : Int32} {a3 : Int32} {s0 : Int64} {z : tq_S} (hB51 : ∀ (b1 : Int32) (z : tq_S), B51 b1 z → tq_T K 3 x mm_X12_tellPlaces 51 [.ref 51, .int b1, .null, .null, .null, .null] [] z Q) (hB73 : ∀ (b2 : Int32) (z : tq_S), B73 b2 z → tq_T K 3 x mm_X12_tellPlaces 73 [.ref 51, .int a1, .int b2, .null, .null, .null] [] z Q) (hB85 : ∀ (b3 : Int32) (z : tq_S), B85 b3 z → tq_T K 3 x mm_X12_tellPlaces 85 [.ref 51, .int a1, .int a2, .int b3, .null, .null] [] z Q) (h : wc_X12_tellPlaces_140 B51 B73 B85 Q a1 a2 a3 s0 z) : tq_T K 3 x mm_X12_tellPlaces 140 [.ref 51, .int a1, .int a2, .int a3, .null, .null] [.long s0] z Q := by
  unfold wc_X12_tellPlaces_140 at h
  refine tq_s_lstore (i := 4) (L9 := [.ref 51, .int a1, .int a2, .int a3, .long s0, .null]) (by decide +kernel) (by decide) rfl ?_
  refine tq_s_lload (i := 4) (by decide +kernel) rfl ?_
  refine tq_k_lc (n := 0) (v := (0 : Int64)) (by decide +kernel) (by decide +kernel) ?_
  refine tq_lcmp_eq (off := 10) (tgt := 156) (by decide +kernel) (by decide +kernel) (by decide +kernel) (fun hc => ?_) (fun hc => ?_)
  · replace h := h.1 hc
    exact tq_to (tq_lk1 (tq_lk1 (tq_lk1 (tq_lk1 (tq_ld1 (tq_lk1 tq_l0)))))) (ac_X12_tellPlaces_156 hB51 hB73 hB85 h)
  · replace h := h.2 hc
    refine tq_s_aload_n (kk := 0) (by decide +kernel) rfl ?_
    refine tq_s_iload_n (kk := 1) (by decide +kernel) rfl ?_
    refine tq_s_lload (i := 4) (by decide +kernel) rfl ?_
    refine tq_callV (as := [.int a1, .long s0]) (st := []) (d1 := 1) (x1 := 0) (x2 := x) (by decide +kernel) ln_12_357 mf_X12_addPlace rfl sh_51 rfl (by decide) np_X12_addPlace rfl (Nat.le_of_ble_eq_true rfl) (by decide) (Nat.zero_add _).symm (tq_M_mono (am_X12_addPlace h) ?_)
    refine tq_wv_e (fun z101 h => ?_)
    exact tq_to (tq_lk1 (tq_lk1 (tq_lk1 (tq_lk1 (tq_ld1 (tq_lk1 tq_l0)))))) (ac_X12_tellPlaces_156 hB51 hB73 hB85 h)
def wc_X12_tellPlaces_139 (B51 : Int32 → tq_S → Prop) (B73 : Int32 → tq_S → Prop) (B85 : Int32 → tq_S → Prop) (Q : tq_O → tq_S → Prop) (a1 : Int32) (a2 : Int32) (a3 : Int32) (z : tq_S) : Prop := wc_X12_tellPlaces_140 B51 B73 B85 Q a1 a2 a3 (0 : Int64) z
theorem ac_X12_tellPlaces_139 {K : Nat × (Nat → Int32)} {x : Nat} {Q : tq_O → tq_S → Prop} {B51 : Int32 → tq_S → Prop} {B73 : Int32 → tq_S → Prop} {B85 : Int32 → tq_S → Prop} {a1 : Int32} {a2 : Int32} {a3 : Int32} {z : tq_S} (hB51 : ∀ (b1 : Int32) (z : tq_S), B51 b1 z → tq_T K 3 x mm_X12_tellPlaces 51 [.ref 51, .int b1, .null, .null, .null, .null] [] z Q) (hB73 : ∀ (b2 : Int32) (z : tq_S), B73 b2 z → tq_T K 3 x mm_X12_tellPlaces 73 [.ref 51, .int a1, .int b2, .null, .null, .null] [] z Q) (hB85 : ∀ (b3 : Int32) (z : tq_S), B85 b3 z → tq_T K 3 x mm_X12_tellPlaces 85 [.ref 51, .int a1, .int a2, .int b3, .null, .null] [] z Q) (h : wc_X12_tellPlaces_139 B51 B73 B85 Q a1 a2 a3 z) : tq_T K 3 x mm_X12_tellPlaces 139 [.ref 51, .int a1, .int a2, .int a3, .null, .null] [] z Q := by
  unfold wc_X12_tellPlaces_139 at h
  refine tq_k_lc (n := 0) (v := (0 : Int64)) (by decide +kernel) (by decide +kernel) ?_
  exact ac_X12_tellPlaces_140 hB51 hB73 hB85 h
def wc_X12_tellPlaces_162 (B51 : Int32 → tq_S → Prop) (B73 : Int32 → tq_S → Prop) (Q : tq_O → tq_S → Prop) (a1 : Int32) (a2 : Int32) (z : tq_S) : Prop := ∀ v101 : Int32, v101 = a2 + (1 : Int32) → B73 v101 z
theorem ac_X12_tellPlaces_162 {K : Nat × (Nat → Int32)} {x : Nat} {Q : tq_O → tq_S → Prop} {B51 : Int32 → tq_S → Prop} {B73 : Int32 → tq_S → Prop} {a1 : Int32} {a2 : Int32} {z : tq_S} (hB51 : ∀ (b1 : Int32) (z : tq_S), B51 b1 z → tq_T K 3 x mm_X12_tellPlaces 51 [.ref 51, .int b1, .null, .null, .null, .null] [] z Q) (hB73 : ∀ (b2 : Int32) (z : tq_S), B73 b2 z → tq_T K 3 x mm_X12_tellPlaces 73 [.ref 51, .int a1, .int b2, .null, .null, .null] [] z Q) (h : wc_X12_tellPlaces_162 B51 B73 Q a1 a2 z) : tq_T K 3 x mm_X12_tellPlaces 162 [.ref 51, .int a1, .int a2, .null, .null, .null] [] z Q := by
  unfold wc_X12_tellPlaces_162 at h
  refine tq_g_iinc (i := 2) (fun v101 => [.ref 51, .int a1, .int v101, .null, .null, .null]) (by decide +kernel) rfl (1 : Int32) kc_1 (fun _ => rfl) (fun v101 ev101 => ?_)
  replace h := h v101 ev101
  refine tq_s_goto (off := -92) (tgt := 73) (by decide +kernel) (by decide +kernel) ?_
  exact hB73 _ _ h
def wb_X12_tellPlaces_85 (B51 : Int32 → tq_S → Prop) (B73 : Int32 → tq_S → Prop) (B85 : Int32 → tq_S → Prop) (Q : tq_O → tq_S → Prop) (a1 : Int32) (a2 : Int32) (a3 : Int32) (z : tq_S) : Prop := (((64 : Int32) ≤ a3 → wc_X12_tellPlaces_162 B51 B73 Q a1 a2 z) ∧ (¬ (64 : Int32) ≤ a3 → (((tq_fi z 3265) ≤ (a3 - a3 / (8 : Int32) * (8 : Int32)) → wc_X12_tellPlaces_139 B51 B73 B85 Q a1 a2 a3 z) ∧ (¬ (tq_fi z 3265) ≤ (a3 - a3 / (8 : Int32) * (8 : Int32)) → (((tq_fi z 3266) ≤ (a3 / (8 : Int32)) → wc_X12_tellPlaces_139 B51 B73 B85 Q a1 a2 a3 z) ∧ (¬ (tq_fi z 3266) ≤ (a3 / (8 : Int32)) → vp_in (((8 : Int32) * a1) + a2) 48 ∧ wm_X12_laid (tq_al z 69 (Int32.toNatClampNeg (((8 : Int32) * a1) + a2))) (a3 - a3 / (8 : Int32) * (8 : Int32)) (a3 / (8 : Int32)) z (tq_wl fun r102 z101 => wc_X12_tellPlaces_140 B51 B73 B85 Q a1 a2 a3 r102 z101)))))))
def wc_X12_tellPlaces_85 (B51 : Int32 → tq_S → Prop) (B73 : Int32 → tq_S → Prop) (Q : tq_O → tq_S → Prop) (a1 : Int32) (a2 : Int32) (a3 : Int32) (z : tq_S) : Prop := tq_lp (σ := Int32 × tq_S) (fun B s => wb_X12_tellPlaces_85 B51 B73 (fun b3 z => B (b3, z)) Q a1 a2 s.1 s.2) (a3, z)
theorem ab_X12_tellPlaces_85 {K : Nat × (Nat → Int32)} {x : Nat} {Q : tq_O → tq_S → Prop} {B51 : Int32 → tq_S → Prop} {B73 : Int32 → tq_S → Prop} {B85 : Int32 → tq_S → Prop} {a1 : Int32} {a2 : Int32} {a3 : Int32} {z : tq_S} (hB51 : ∀ (b1 : Int32) (z : tq_S), B51 b1 z → tq_T K 3 x mm_X12_tellPlaces 51 [.ref 51, .int b1, .null, .null, .null, .null] [] z Q) (hB73 : ∀ (b2 : Int32) (z : tq_S), B73 b2 z → tq_T K 3 x mm_X12_tellPlaces 73 [.ref 51, .int a1, .int b2, .null, .null, .null] [] z Q) (hB85 : ∀ (b3 : Int32) (z : tq_S), B85 b3 z → tq_T K 3 x mm_X12_tellPlaces 85 [.ref 51, .int a1, .int a2, .int b3, .null, .null] [] z Q) (h : wb_X12_tellPlaces_85 B51 B73 B85 Q a1 a2 a3 z) : tq_T K 3 x mm_X12_tellPlaces 85 [.ref 51, .int a1, .int a2, .int a3, .null, .null] [] z Q := by
  unfold wb_X12_tellPlaces_85 at h
  refine tq_s_iload_n (kk := 3) (by decide +kernel) rfl ?_
  refine tq_k_bi (n := 64) (v := (64 : Int32)) (by decide +kernel) kb_64 ?_
  refine tq_icmp_ge (off := 74) (tgt := 162) (by decide +kernel) (by decide +kernel) (fun hc => ?_) (fun hc => ?_)
  · replace h := h.1 hc
    exact tq_to (tq_lk1 (tq_lk1 (tq_lk1 (tq_ld1 (tq_lk1 (tq_lk1 tq_l0)))))) (ac_X12_tellPlaces_162 hB51 hB73 h)
  · replace h := h.2 hc
    refine tq_s_iload_n (kk := 3) (by decide +kernel) rfl ?_
    refine tq_k_bi (n := 8) (v := (8 : Int32)) (by decide +kernel) kb_8 ?_
    refine tq_s_irem (by decide +kernel) (by decide +kernel) ?_
    refine tq_s_aload_n (kk := 0) (by decide +kernel) rfl ?_
    refine fg_12_7_51 rfl (by decide +kernel) ?_
    refine tq_icmp_ge (off := 40) (tgt := 139) (by decide +kernel) (by decide +kernel) (fun hc => ?_) (fun hc => ?_)
    · replace h := h.1 hc
      exact ac_X12_tellPlaces_139 hB51 hB73 hB85 h
    · replace h := h.2 hc
      refine tq_s_iload_n (kk := 3) (by decide +kernel) rfl ?_
      refine tq_k_bi (n := 8) (v := (8 : Int32)) (by decide +kernel) kb_8 ?_
      refine tq_s_idiv (by decide +kernel) (by decide +kernel) ?_
      refine tq_s_aload_n (kk := 0) (by decide +kernel) rfl ?_
      refine fg_12_13_51 rfl (by decide +kernel) ?_
      refine tq_icmp_ge (off := 29) (tgt := 139) (by decide +kernel) (by decide +kernel) (fun hc => ?_) (fun hc => ?_)
      · replace h := h.1 hc
        exact ac_X12_tellPlaces_139 hB51 hB73 hB85 h
      · replace h := h.2 hc
        refine tq_s_aload_n (kk := 0) (by decide +kernel) rfl ?_
        refine tq_s_aload_n (kk := 0) (by decide +kernel) rfl ?_
        refine fg_12_74_51 rfl (by decide +kernel) ?_
        refine tq_k_bi (n := 8) (v := (8 : Int32)) (by decide +kernel) kb_8 ?_
        refine tq_s_iload_n (kk := 1) (by decide +kernel) rfl ?_
        refine tq_s_imul (by decide +kernel) ?_
        refine tq_s_iload_n (kk := 2) (by decide +kernel) rfl ?_
        refine tq_s_iadd (by decide +kernel) ?_
        refine tq_s_lald (by decide +kernel) sh_69 h.1 ?_
        replace h := h.2
        refine tq_s_iload_n (kk := 3) (by decide +kernel) rfl ?_
        refine tq_k_bi (n := 8) (v := (8 : Int32)) (by decide +kernel) kb_8 ?_
        refine tq_s_irem (by decide +kernel) (by decide +kernel) ?_
        refine tq_s_iload_n (kk := 3) (by decide +kernel) rfl ?_
        refine tq_k_bi (n := 8) (v := (8 : Int32)) (by decide +kernel) kb_8 ?_
        refine tq_s_idiv (by decide +kernel) (by decide +kernel) ?_
        refine tq_callV (as := [.long (tq_al z 69 (Int32.toNatClampNeg (((8 : Int32) * a1) + a2))), .int (a3 - a3 / (8 : Int32) * (8 : Int32)), .int (a3 / (8 : Int32))]) (st := []) (d1 := 2) (x1 := 0) (x2 := x) (by decide +kernel) ln_12_353 mf_X12_laid rfl sh_51 rfl (by decide) np_X12_laid rfl (Nat.le_of_ble_eq_true rfl) (by decide) (Nat.zero_add _).symm (tq_M_mono (am_X12_laid h) ?_)
        refine tq_wl_e (fun r102 z101 h => ?_)
        refine tq_s_goto (off := 4) (tgt := 140) (by decide +kernel) (by decide +kernel) ?_
        exact ac_X12_tellPlaces_140 hB51 hB73 hB85 h
theorem ac_X12_tellPlaces_85 {K : Nat × (Nat → Int32)} {x : Nat} {Q : tq_O → tq_S → Prop} {B51 : Int32 → tq_S → Prop} {B73 : Int32 → tq_S → Prop} {a1 : Int32} {a2 : Int32} {a3 : Int32} {z : tq_S} (hB51 : ∀ (b1 : Int32) (z : tq_S), B51 b1 z → tq_T K 3 x mm_X12_tellPlaces 51 [.ref 51, .int b1, .null, .null, .null, .null] [] z Q) (hB73 : ∀ (b2 : Int32) (z : tq_S), B73 b2 z → tq_T K 3 x mm_X12_tellPlaces 73 [.ref 51, .int a1, .int b2, .null, .null, .null] [] z Q) (h : wc_X12_tellPlaces_85 B51 B73 Q a1 a2 a3 z) : tq_T K 3 x mm_X12_tellPlaces 85 [.ref 51, .int a1, .int a2, .int a3, .null, .null] [] z Q :=
  tq_lp_T (σ := Int32 × tq_S) (s := (a3, z)) (G := fun s => tq_T K 3 x mm_X12_tellPlaces 85 [.ref 51, .int a1, .int a2, .int s.1, .null, .null] [] s.2 Q) (fun B hB s h => ab_X12_tellPlaces_85 hB51 hB73 (fun b3 z h => hB (b3, z) h) h) h
def wc_X12_tellPlaces_168 (B51 : Int32 → tq_S → Prop) (Q : tq_O → tq_S → Prop) (a1 : Int32) (z : tq_S) : Prop := ∀ v101 : Int32, v101 = a1 + (1 : Int32) → B51 v101 z
theorem ac_X12_tellPlaces_168 {K : Nat × (Nat → Int32)} {x : Nat} {Q : tq_O → tq_S → Prop} {B51 : Int32 → tq_S → Prop} {a1 : Int32} {z : tq_S} (hB51 : ∀ (b1 : Int32) (z : tq_S), B51 b1 z → tq_T K 3 x mm_X12_tellPlaces 51 [.ref 51, .int b1, .null, .null, .null, .null] [] z Q) (h : wc_X12_tellPlaces_168 B51 Q a1 z) : tq_T K 3 x mm_X12_tellPlaces 168 [.ref 51, .int a1, .null, .null, .null, .null] [] z Q := by
  unfold wc_X12_tellPlaces_168 at h
  refine tq_g_iinc (i := 1) (fun v101 => [.ref 51, .int v101, .null, .null, .null, .null]) (by decide +kernel) rfl (1 : Int32) kc_1 (fun _ => rfl) (fun v101 ev101 => ?_)
  replace h := h v101 ev101
  refine tq_s_goto (off := -120) (tgt := 51) (by decide +kernel) (by decide +kernel) ?_
  exact hB51 _ _ h
def wb_X12_tellPlaces_73 (B51 : Int32 → tq_S → Prop) (B73 : Int32 → tq_S → Prop) (Q : tq_O → tq_S → Prop) (a1 : Int32) (a2 : Int32) (z : tq_S) : Prop := vp_in a1 6 ∧ (((tq_ai z 68 (Int32.toNatClampNeg a1)) ≤ a2 → wc_X12_tellPlaces_168 B51 Q a1 z) ∧ (¬ (tq_ai z 68 (Int32.toNatClampNeg a1)) ≤ a2 → wc_X12_tellPlaces_85 B51 B73 Q a1 a2 (0 : Int32) z))
def wc_X12_tellPlaces_73 (B51 : Int32 → tq_S → Prop) (Q : tq_O → tq_S → Prop) (a1 : Int32) (a2 : Int32) (z : tq_S) : Prop := tq_lp (σ := Int32 × tq_S) (fun B s => wb_X12_tellPlaces_73 B51 (fun b2 z => B (b2, z)) Q a1 s.1 s.2) (a2, z)
theorem ab_X12_tellPlaces_73 {K : Nat × (Nat → Int32)} {x : Nat} {Q : tq_O → tq_S → Prop} {B51 : Int32 → tq_S → Prop} {B73 : Int32 → tq_S → Prop} {a1 : Int32} {a2 : Int32} {z : tq_S} (hB51 : ∀ (b1 : Int32) (z : tq_S), B51 b1 z → tq_T K 3 x mm_X12_tellPlaces 51 [.ref 51, .int b1, .null, .null, .null, .null] [] z Q) (hB73 : ∀ (b2 : Int32) (z : tq_S), B73 b2 z → tq_T K 3 x mm_X12_tellPlaces 73 [.ref 51, .int a1, .int b2, .null, .null, .null] [] z Q) (h : wb_X12_tellPlaces_73 B51 B73 Q a1 a2 z) : tq_T K 3 x mm_X12_tellPlaces 73 [.ref 51, .int a1, .int a2, .null, .null, .null] [] z Q := by
  unfold wb_X12_tellPlaces_73 at h
  refine tq_s_iload_n (kk := 2) (by decide +kernel) rfl ?_
  refine tq_s_aload_n (kk := 0) (by decide +kernel) rfl ?_
  refine fg_12_71_51 rfl (by decide +kernel) ?_
  refine tq_s_iload_n (kk := 1) (by decide +kernel) rfl ?_
  refine tq_s_iald (by decide +kernel) sh_68 h.1 ?_
  replace h := h.2
  refine tq_icmp_ge (off := 88) (tgt := 168) (by decide +kernel) (by decide +kernel) (fun hc => ?_) (fun hc => ?_)
  · replace h := h.1 hc
    exact tq_to (tq_lk1 (tq_lk1 (tq_ld1 (tq_lk1 (tq_lk1 (tq_lk1 tq_l0)))))) (ac_X12_tellPlaces_168 hB51 h)
  · replace h := h.2 hc
    refine tq_k_ic (n := 0) (v := (0 : Int32)) (by decide +kernel) kc_0 ?_
    refine tq_s_istore_n (kk := 3) (L9 := [.ref 51, .int a1, .int a2, .int (0 : Int32), .null, .null]) (by decide +kernel) (by decide) rfl ?_
    exact ac_X12_tellPlaces_85 hB51 hB73 h
theorem ac_X12_tellPlaces_73 {K : Nat × (Nat → Int32)} {x : Nat} {Q : tq_O → tq_S → Prop} {B51 : Int32 → tq_S → Prop} {a1 : Int32} {a2 : Int32} {z : tq_S} (hB51 : ∀ (b1 : Int32) (z : tq_S), B51 b1 z → tq_T K 3 x mm_X12_tellPlaces 51 [.ref 51, .int b1, .null, .null, .null, .null] [] z Q) (h : wc_X12_tellPlaces_73 B51 Q a1 a2 z) : tq_T K 3 x mm_X12_tellPlaces 73 [.ref 51, .int a1, .int a2, .null, .null, .null] [] z Q :=
  tq_lp_T (σ := Int32 × tq_S) (s := (a2, z)) (G := fun s => tq_T K 3 x mm_X12_tellPlaces 73 [.ref 51, .int a1, .int s.1, .null, .null, .null] [] s.2 Q) (fun B hB s h => ab_X12_tellPlaces_73 hB51 (fun b2 z h => hB (b2, z) h) h) h
def wb_X12_tellPlaces_51 (B51 : Int32 → tq_S → Prop) (Q : tq_O → tq_S → Prop) (a1 : Int32) (z : tq_S) : Prop := (((tq_fi z 3290) ≤ a1 → Q (.inl none) z) ∧ (¬ (tq_fi z 3290) ≤ a1 → vp_in a1 6 ∧ vp_in a1 6 ∧ ∀ z101 : tq_S, z101 = tq_sai z 73 (upd (tq_ai z 73) (Int32.toNatClampNeg a1) (tq_ai z 67 (Int32.toNatClampNeg a1))) → wc_X12_tellPlaces_73 B51 Q a1 (0 : Int32) z101))
def wc_X12_tellPlaces_51 (Q : tq_O → tq_S → Prop) (a1 : Int32) (z : tq_S) : Prop := tq_lp (σ := Int32 × tq_S) (fun B s => wb_X12_tellPlaces_51 (fun b1 z => B (b1, z)) Q s.1 s.2) (a1, z)
theorem ab_X12_tellPlaces_51 {K : Nat × (Nat → Int32)} {x : Nat} {Q : tq_O → tq_S → Prop} {B51 : Int32 → tq_S → Prop} {a1 : Int32} {z : tq_S} (hB51 : ∀ (b1 : Int32) (z : tq_S), B51 b1 z → tq_T K 3 x mm_X12_tellPlaces 51 [.ref 51, .int b1, .null, .null, .null, .null] [] z Q) (h : wb_X12_tellPlaces_51 B51 Q a1 z) : tq_T K 3 x mm_X12_tellPlaces 51 [.ref 51, .int a1, .null, .null, .null, .null] [] z Q := by
  unfold wb_X12_tellPlaces_51 at h
  refine tq_s_iload_n (kk := 1) (by decide +kernel) rfl ?_
  refine tq_s_aload_n (kk := 0) (by decide +kernel) rfl ?_
  refine fg_12_324_51 rfl (by decide +kernel) ?_
  refine tq_icmp_ge (off := 118) (tgt := 174) (by decide +kernel) (by decide +kernel) (fun hc => ?_) (fun hc => ?_)
  · replace h := h.1 hc
    exact tq_ret_v (st := []) (by decide +kernel) rfl h
  · replace h := h.2 hc
    refine tq_s_aload_n (kk := 0) (by decide +kernel) rfl ?_
    refine fg_12_86_51 rfl (by decide +kernel) ?_
    refine tq_s_iload_n (kk := 1) (by decide +kernel) rfl ?_
    refine tq_s_aload_n (kk := 0) (by decide +kernel) rfl ?_
    refine fg_12_68_51 rfl (by decide +kernel) ?_
    refine tq_s_iload_n (kk := 1) (by decide +kernel) rfl ?_
    refine tq_s_iald (by decide +kernel) sh_67 h.1 ?_
    replace h := h.2
    refine tq_g_iast (by decide +kernel) sh_73 h.1 (fun z101 ez101 => ?_)
    replace h := h.2 z101 ez101
    refine tq_k_ic (n := 0) (v := (0 : Int32)) (by decide +kernel) kc_0 ?_
    refine tq_s_istore_n (kk := 2) (L9 := [.ref 51, .int a1, .int (0 : Int32), .null, .null, .null]) (by decide +kernel) (by decide) rfl ?_
    exact ac_X12_tellPlaces_73 hB51 h
theorem ac_X12_tellPlaces_51 {K : Nat × (Nat → Int32)} {x : Nat} {Q : tq_O → tq_S → Prop} {a1 : Int32} {z : tq_S} (h : wc_X12_tellPlaces_51 Q a1 z) : tq_T K 3 x mm_X12_tellPlaces 51 [.ref 51, .int a1, .null, .null, .null, .null] [] z Q :=
  tq_lp_T (σ := Int32 × tq_S) (s := (a1, z)) (G := fun s => tq_T K 3 x mm_X12_tellPlaces 51 [.ref 51, .int s.1, .null, .null, .null, .null] [] s.2 Q) (fun B hB s h => ab_X12_tellPlaces_51 (fun b1 z h => hB (b1, z) h) h) h
def wc_X12_tellPlaces_49 (Q : tq_O → tq_S → Prop)  (z : tq_S) : Prop := wc_X12_tellPlaces_51 Q (0 : Int32) z
theorem ac_X12_tellPlaces_49 {K : Nat × (Nat → Int32)} {x : Nat} {Q : tq_O → tq_S → Prop}  {z : tq_S} (h : wc_X12_tellPlaces_49 Q z) : tq_T K 3 x mm_X12_tellPlaces 49 [.ref 51, .null, .null, .null, .null, .null] [] z Q := by
  unfold wc_X12_tellPlaces_49 at h
  refine tq_k_ic (n := 0) (v := (0 : Int32)) (by decide +kernel) kc_0 ?_
  refine tq_s_istore_n (kk := 1) (L9 := [.ref 51, .int (0 : Int32), .null, .null, .null, .null]) (by decide +kernel) (by decide) rfl ?_
  exact ac_X12_tellPlaces_51 h
def wb_X12_tellPlaces_12 (B12 : Int32 → tq_S → Prop) (Q : tq_O → tq_S → Prop) (a1 : Int32) (z : tq_S) : Prop := (((64 : Int32) ≤ a1 → wc_X12_tellPlaces_49 Q z) ∧ (¬ (64 : Int32) ≤ a1 → vp_in a1 64 ∧ (((tq_ai z 52 (Int32.toNatClampNeg a1)) = 0 → wc_X12_tellPlaces_39 B12 Q a1 (0 : Int64) (tq_fl z 3306) z) ∧ (¬ (tq_ai z 52 (Int32.toNatClampNeg a1)) = 0 → wc_X12_tellPlaces_39 B12 Q a1 ((1 : Int64) <<< ((Int32.toInt64 a1) &&& 63)) (tq_fl z 3306) z))))
def wc_X12_tellPlaces_12 (Q : tq_O → tq_S → Prop) (a1 : Int32) (z : tq_S) : Prop := tq_lp (σ := Int32 × tq_S) (fun B s => wb_X12_tellPlaces_12 (fun b1 z => B (b1, z)) Q s.1 s.2) (a1, z)
theorem ab_X12_tellPlaces_12 {K : Nat × (Nat → Int32)} {x : Nat} {Q : tq_O → tq_S → Prop} {B12 : Int32 → tq_S → Prop} {a1 : Int32} {z : tq_S} (hB12 : ∀ (b1 : Int32) (z : tq_S), B12 b1 z → tq_T K 3 x mm_X12_tellPlaces 12 [.ref 51, .int b1, .null, .null, .null, .null] [] z Q) (h : wb_X12_tellPlaces_12 B12 Q a1 z) : tq_T K 3 x mm_X12_tellPlaces 12 [.ref 51, .int a1, .null, .null, .null, .null] [] z Q := by
  unfold wb_X12_tellPlaces_12 at h
  refine tq_s_iload_n (kk := 1) (by decide +kernel) rfl ?_
  refine tq_k_bi (n := 64) (v := (64 : Int32)) (by decide +kernel) kb_64 ?_
  refine tq_icmp_ge (off := 34) (tgt := 49) (by decide +kernel) (by decide +kernel) (fun hc => ?_) (fun hc => ?_)
  · replace h := h.1 hc
    exact tq_to (tq_lk1 (tq_ld1 (tq_lk1 (tq_lk1 (tq_lk1 (tq_lk1 tq_l0)))))) (ac_X12_tellPlaces_49 h)
  · replace h := h.2 hc
    refine tq_s_aload_n (kk := 0) (by decide +kernel) rfl ?_
    refine tq_s_dup (by decide +kernel) rfl ?_
    refine fg_12_350_51 rfl (by decide +kernel) ?_
    refine tq_s_aload_n (kk := 0) (by decide +kernel) rfl ?_
    refine fg_12_16_51 rfl (by decide +kernel) ?_
    refine tq_s_iload_n (kk := 1) (by decide +kernel) rfl ?_
    refine tq_s_zald (by decide +kernel) sh_52 h.1 ?_
    replace h := h.2
    refine tq_if_eq (off := 9) (tgt := 38) (by decide +kernel) (by decide +kernel) (fun hc => ?_) (fun hc => ?_)
    · replace h := h.1 hc
      refine tq_k_lc (n := 0) (v := (0 : Int64)) (by decide +kernel) (by decide +kernel) ?_
      exact ac_X12_tellPlaces_39 hB12 h
    · replace h := h.2 hc
      refine tq_k_lc (n := 1) (v := (1 : Int64)) (by decide +kernel) (by decide +kernel) ?_
      refine tq_s_iload_n (kk := 1) (by decide +kernel) rfl ?_
      refine tq_s_lshl (by decide +kernel) ?_
      refine tq_s_goto (off := 4) (tgt := 39) (by decide +kernel) (by decide +kernel) ?_
      exact ac_X12_tellPlaces_39 hB12 h
theorem ac_X12_tellPlaces_12 {K : Nat × (Nat → Int32)} {x : Nat} {Q : tq_O → tq_S → Prop} {a1 : Int32} {z : tq_S} (h : wc_X12_tellPlaces_12 Q a1 z) : tq_T K 3 x mm_X12_tellPlaces 12 [.ref 51, .int a1, .null, .null, .null, .null] [] z Q :=
  tq_lp_T (σ := Int32 × tq_S) (s := (a1, z)) (G := fun s => tq_T K 3 x mm_X12_tellPlaces 12 [.ref 51, .int s.1, .null, .null, .null, .null] [] s.2 Q) (fun B hB s h => ab_X12_tellPlaces_12 (fun b1 z h => hB (b1, z) h) h) h
def wm_X12_tellPlaces  (z : tq_S) (Q : tq_O → tq_S → Prop) : Prop := ∀ z1 : tq_S, z1 = tq_sfi z 3294 (0 : Int32) → ∀ z2 : tq_S, z2 = tq_sfl z1 3306 (0 : Int64) → wc_X12_tellPlaces_12 Q (0 : Int32) z2
theorem am_X12_tellPlaces {K : Nat × (Nat → Int32)} {x : Nat} {z : tq_S} {Q : tq_O → tq_S → Prop}  (h : wm_X12_tellPlaces z Q) : tq_M K 3 x mm_X12_tellPlaces [.ref 51] z Q := by
  unfold wm_X12_tellPlaces at h
  refine tq_enter (L := [.ref 51, .null, .null, .null, .null, .null]) mf_X12_tellPlaces.1 rfl rfl (Nat.le_of_ble_eq_true rfl) ?_
  refine tq_s_aload_n (kk := 0) (by decide +kernel) rfl ?_
  refine tq_k_ic (n := 0) (v := (0 : Int32)) (by decide +kernel) kc_0 ?_
  refine fp_12_343_51 rfl (by decide +kernel) (fun z1 ez1 => ?_)
  replace h := h z1 ez1
  refine tq_s_aload_n (kk := 0) (by decide +kernel) rfl ?_
  refine tq_k_lc (n := 0) (v := (0 : Int64)) (by decide +kernel) (by decide +kernel) ?_
  refine fp_12_350_51 rfl (by decide +kernel) (fun z2 ez2 => ?_)
  replace h := h z2 ez2
  refine tq_k_ic (n := 0) (v := (0 : Int32)) (by decide +kernel) kc_0 ?_
  refine tq_s_istore_n (kk := 1) (L9 := [.ref 51, .int (0 : Int32), .null, .null, .null, .null]) (by decide +kernel) (by decide) rfl ?_
  exact ac_X12_tellPlaces_12 h
def wc_X12_goes_69 (Q : tq_O → tq_S → Prop) (a3 : Int32) (s0 : Int32) (z : tq_S) : Prop := Q (.inl (some (.int (((8 : Int32) * s0) + a3)))) z
theorem ac_X12_goes_69 {K : Nat × (Nat → Int32)} {x : Nat} {Q : tq_O → tq_S → Prop} {a3 : Int32} {s0 : Int32} {z : tq_S} (h : wc_X12_goes_69 Q a3 s0 z) : tq_T K 0 x mm_X12_goes 69 [.null, .null, .null, .int a3, .null, .null] [.int s0] z Q := by
  unfold wc_X12_goes_69 at h
  refine tq_s_istore (i := 4) (L9 := [.null, .null, .null, .int a3, .int s0, .null]) (by decide +kernel) (by decide) rfl ?_
  refine tq_k_bi (n := 8) (v := (8 : Int32)) (by decide +kernel) kb_8 ?_
  refine tq_s_iload (i := 4) (by decide +kernel) rfl ?_
  refine tq_s_imul (by decide +kernel) ?_
  refine tq_s_iload_n (kk := 3) (by decide +kernel) rfl ?_
  refine tq_s_iadd (by decide +kernel) ?_
  exact tq_ret_i (st := []) (by decide +kernel) rfl h
def wc_X12_goes_47 (Q : tq_O → tq_S → Prop) (a2 : Int32) (a4 : Int32) (s0 : Int32) (z : tq_S) : Prop := ((¬ (a2 &&& (2 : Int32)) = (2 : Int32) → wc_X12_goes_69 Q s0 a4 z) ∧ ((a2 &&& (2 : Int32)) = (2 : Int32) → wc_X12_goes_69 Q s0 (((tq_fi z 3266) - (1 : Int32)) - a4) z))
theorem ac_X12_goes_47 {K : Nat × (Nat → Int32)} {x : Nat} {Q : tq_O → tq_S → Prop} {a2 : Int32} {a4 : Int32} {s0 : Int32} {z : tq_S} (h : wc_X12_goes_47 Q a2 a4 s0 z) : tq_T K 0 x mm_X12_goes 47 [.ref 51, .null, .int a2, .null, .int a4, .null] [.int s0] z Q := by
  unfold wc_X12_goes_47 at h
  refine tq_s_istore_n (kk := 3) (L9 := [.ref 51, .null, .int a2, .int s0, .int a4, .null]) (by decide +kernel) (by decide) rfl ?_
  refine tq_s_iload_n (kk := 2) (by decide +kernel) rfl ?_
  refine tq_k_ic (n := 2) (v := (2 : Int32)) (by decide +kernel) kc_2 ?_
  refine tq_s_iand (by decide +kernel) ?_
  refine tq_k_ic (n := 2) (v := (2 : Int32)) (by decide +kernel) kc_2 ?_
  refine tq_icmp_ne (off := 15) (tgt := 67) (by decide +kernel) (by decide +kernel) (fun hc => ?_) (fun hc => ?_)
  · replace h := h.1 hc
    refine tq_s_iload (i := 4) (by decide +kernel) rfl ?_
    exact tq_to (tq_ld1 (tq_lk1 (tq_ld1 (tq_lk1 (tq_ld1 (tq_lk1 tq_l0)))))) (ac_X12_goes_69 h)
  · replace h := h.2 hc
    refine tq_s_aload_n (kk := 0) (by decide +kernel) rfl ?_
    refine fg_12_13_51 rfl (by decide +kernel) ?_
    refine tq_k_ic (n := 1) (v := (1 : Int32)) (by decide +kernel) kc_1 ?_
    refine tq_s_isub (by decide +kernel) ?_
    refine tq_s_iload (i := 4) (by decide +kernel) rfl ?_
    refine tq_s_isub (by decide +kernel) ?_
    refine tq_s_goto (off := 5) (tgt := 69) (by decide +kernel) (by decide +kernel) ?_
    exact tq_to (tq_ld1 (tq_lk1 (tq_ld1 (tq_lk1 (tq_ld1 (tq_lk1 tq_l0)))))) (ac_X12_goes_69 h)
def wc_X12_goes_28 (Q : tq_O → tq_S → Prop) (a2 : Int32) (a3 : Int32) (a4 : Int32) (z : tq_S) : Prop := ((¬ (a2 &&& (1 : Int32)) = (1 : Int32) → wc_X12_goes_47 Q a2 a4 a3 z) ∧ ((a2 &&& (1 : Int32)) = (1 : Int32) → wc_X12_goes_47 Q a2 a4 (((tq_fi z 3265) - (1 : Int32)) - a3) z))
theorem ac_X12_goes_28 {K : Nat × (Nat → Int32)} {x : Nat} {Q : tq_O → tq_S → Prop} {a2 : Int32} {a3 : Int32} {a4 : Int32} {z : tq_S} (h : wc_X12_goes_28 Q a2 a3 a4 z) : tq_T K 0 x mm_X12_goes 28 [.ref 51, .null, .int a2, .int a3, .int a4, .null] [] z Q := by
  unfold wc_X12_goes_28 at h
  refine tq_s_iload_n (kk := 2) (by decide +kernel) rfl ?_
  refine tq_k_ic (n := 1) (v := (1 : Int32)) (by decide +kernel) kc_1 ?_
  refine tq_s_iand (by decide +kernel) ?_
  refine tq_k_ic (n := 1) (v := (1 : Int32)) (by decide +kernel) kc_1 ?_
  refine tq_icmp_ne (off := 14) (tgt := 46) (by decide +kernel) (by decide +kernel) (fun hc => ?_) (fun hc => ?_)
  · replace h := h.1 hc
    refine tq_s_iload_n (kk := 3) (by decide +kernel) rfl ?_
    exact tq_to (tq_lk1 (tq_lk1 (tq_lk1 (tq_ld1 (tq_lk1 (tq_lk1 tq_l0)))))) (ac_X12_goes_47 h)
  · replace h := h.2 hc
    refine tq_s_aload_n (kk := 0) (by decide +kernel) rfl ?_
    refine fg_12_7_51 rfl (by decide +kernel) ?_
    refine tq_k_ic (n := 1) (v := (1 : Int32)) (by decide +kernel) kc_1 ?_
    refine tq_s_isub (by decide +kernel) ?_
    refine tq_s_iload_n (kk := 3) (by decide +kernel) rfl ?_
    refine tq_s_isub (by decide +kernel) ?_
    refine tq_s_goto (off := 4) (tgt := 47) (by decide +kernel) (by decide +kernel) ?_
    exact tq_to (tq_lk1 (tq_lk1 (tq_lk1 (tq_ld1 (tq_lk1 (tq_lk1 tq_l0)))))) (ac_X12_goes_47 h)
def wm_X12_goes (a1 : Int32) (a2 : Int32) (z : tq_S) (Q : tq_O → tq_S → Prop) : Prop := ∀ v1 : Int32, v1 = (a1 - a1 / (8 : Int32) * (8 : Int32)) → ∀ v2 : Int32, v2 = (a1 / (8 : Int32)) → ((¬ (a2 &&& (4 : Int32)) = (4 : Int32) → wc_X12_goes_28 Q a2 v1 v2 z) ∧ ((a2 &&& (4 : Int32)) = (4 : Int32) → wc_X12_goes_28 Q a2 v2 v1 z))
theorem am_X12_goes {K : Nat × (Nat → Int32)} {x : Nat} {z : tq_S} {Q : tq_O → tq_S → Prop} {a1 : Int32} {a2 : Int32} (h : wm_X12_goes a1 a2 z Q) : tq_M K 0 x mm_X12_goes [.ref 51, .int a1, .int a2] z Q := by
  unfold wm_X12_goes at h
  refine tq_enter (L := [.ref 51, .int a1, .int a2, .null, .null, .null]) mf_X12_goes.1 rfl rfl (Nat.le_of_ble_eq_true rfl) ?_
  refine tq_s_iload_n (kk := 1) (by decide +kernel) rfl ?_
  refine tq_k_bi (n := 8) (v := (8 : Int32)) (by decide +kernel) kb_8 ?_
  refine tq_s_irem (by decide +kernel) (by decide +kernel) ?_
  refine tq_g_istore_n (kk := 3) (fun v1 => [.ref 51, .int a1, .int a2, .int v1, .null, .null]) (by decide +kernel) (by decide) (fun _ => rfl) (fun v1 ev1 => ?_)
  replace h := h v1 ev1
  refine tq_s_iload_n (kk := 1) (by decide +kernel) rfl ?_
  refine tq_k_bi (n := 8) (v := (8 : Int32)) (by decide +kernel) kb_8 ?_
  refine tq_s_idiv (by decide +kernel) (by decide +kernel) ?_
  refine tq_g_istore (i := 4) (fun v2 => [.ref 51, .int a1, .int a2, .int v1, .int v2, .null]) (by decide +kernel) (by decide) (fun _ => rfl) (fun v2 ev2 => ?_)
  replace h := h v2 ev2
  refine tq_s_iload_n (kk := 2) (by decide +kernel) rfl ?_
  refine tq_k_ic (n := 4) (v := (4 : Int32)) (by decide +kernel) kc_4 ?_
  refine tq_s_iand (by decide +kernel) ?_
  refine tq_k_ic (n := 4) (v := (4 : Int32)) (by decide +kernel) kc_4 ?_
  refine tq_icmp_ne (off := 13) (tgt := 28) (by decide +kernel) (by decide +kernel) (fun hc => ?_) (fun hc => ?_)
  · replace h := h.1 hc
    exact tq_to (tq_lk1 (tq_ld1 (tq_lk1 (tq_lk1 (tq_lk1 (tq_lk1 tq_l0)))))) (ac_X12_goes_28 h)
  · replace h := h.2 hc
    refine tq_s_iload_n (kk := 3) (by decide +kernel) rfl ?_
    refine tq_s_istore (i := 5) (L9 := [.ref 51, .int a1, .int a2, .int v1, .int v2, .int v1]) (by decide +kernel) (by decide) rfl ?_
    refine tq_s_iload (i := 4) (by decide +kernel) rfl ?_
    refine tq_s_istore_n (kk := 3) (L9 := [.ref 51, .int a1, .int a2, .int v2, .int v2, .int v1]) (by decide +kernel) (by decide) rfl ?_
    refine tq_s_iload (i := 5) (by decide +kernel) rfl ?_
    refine tq_s_istore (i := 4) (L9 := [.ref 51, .int a1, .int a2, .int v2, .int v1, .int v1]) (by decide +kernel) (by decide) rfl ?_
    exact tq_to (tq_lk1 (tq_ld1 (tq_lk1 (tq_lk1 (tq_lk1 (tq_ld1 tq_l0)))))) (ac_X12_goes_28 h)
def wc_X12_goesAll_39 (B6 : Int64 → Int32 → tq_S → Prop) (Q : tq_O → tq_S → Prop) (a1 : Int64) (a3 : Int32) (a6 : Int32) (s0 : Int64) (s1 : Int64) (z : tq_S) : Prop := ∀ v101 : Int64, v101 = (s1 ||| s0) → ∀ v102 : Int32, v102 = a6 + (1 : Int32) → B6 v101 v102 z
theorem ac_X12_goesAll_39 {K : Nat × (Nat → Int32)} {x : Nat} {Q : tq_O → tq_S → Prop} {B6 : Int64 → Int32 → tq_S → Prop} {a1 : Int64} {a3 : Int32} {a6 : Int32} {s0 : Int64} {s1 : Int64} {z : tq_S} (hB6 : ∀ (b4 : Int64) (b6 : Int32) (z : tq_S), B6 b4 b6 z → tq_T K 1 x mm_X12_goesAll 6 [.ref 51, .long a1, .null, .int a3, .long b4, .null, .int b6] [] z Q) (h : wc_X12_goesAll_39 B6 Q a1 a3 a6 s0 s1 z) : tq_T K 1 x mm_X12_goesAll 39 [.ref 51, .long a1, .null, .int a3, .null, .null, .int a6] [.long s0, .long s1] z Q := by
  unfold wc_X12_goesAll_39 at h
  refine tq_s_lor (by decide +kernel) ?_
  refine tq_g_lstore (i := 4) (fun v101 => [.ref 51, .long a1, .null, .int a3, .long v101, .null, .int a6]) (by decide +kernel) (by decide) (fun _ => rfl) (fun v101 ev101 => ?_)
  replace h := h v101 ev101
  refine tq_g_iinc (i := 6) (fun v102 => [.ref 51, .long a1, .null, .int a3, .long v101, .null, .int v102]) (by decide +kernel) rfl (1 : Int32) kc_1 (fun _ => rfl) (fun v102 ev102 => ?_)
  replace h := h v102 ev102
  refine tq_s_goto (off := -39) (tgt := 6) (by decide +kernel) (by decide +kernel) ?_
  exact hB6 _ _ _ h
def wb_X12_goesAll_6 (B6 : Int64 → Int32 → tq_S → Prop) (Q : tq_O → tq_S → Prop) (a1 : Int64) (a3 : Int32) (a4 : Int64) (a6 : Int32) (z : tq_S) : Prop := (((64 : Int32) ≤ a6 → Q (.inl (some (.long a4))) z) ∧ (¬ (64 : Int32) ≤ a6 → ((¬ (((Int64.toUInt64 a1) >>> ((Int32.toInt64 a6).toUInt64 &&& Int64.toUInt64 63)).toInt64 &&& (1 : Int64)) = (1 : Int64) → wc_X12_goesAll_39 B6 Q a1 a3 a6 (0 : Int64) a4 z) ∧ ((((Int64.toUInt64 a1) >>> ((Int32.toInt64 a6).toUInt64 &&& Int64.toUInt64 63)).toInt64 &&& (1 : Int64)) = (1 : Int64) → wm_X12_goes a6 a3 z (tq_wi fun r102 z101 => wc_X12_goesAll_39 B6 Q a1 a3 a6 ((1 : Int64) <<< ((Int32.toInt64 r102) &&& 63)) a4 z101)))))
def wc_X12_goesAll_6 (Q : tq_O → tq_S → Prop) (a1 : Int64) (a3 : Int32) (a4 : Int64) (a6 : Int32) (z : tq_S) : Prop := tq_lp (σ := Int64 × Int32 × tq_S) (fun B s => wb_X12_goesAll_6 (fun b4 b6 z => B (b4, b6, z)) Q a1 a3 s.1 s.2.1 s.2.2) (a4, a6, z)
theorem ab_X12_goesAll_6 {K : Nat × (Nat → Int32)} {x : Nat} {Q : tq_O → tq_S → Prop} {B6 : Int64 → Int32 → tq_S → Prop} {a1 : Int64} {a3 : Int32} {a4 : Int64} {a6 : Int32} {z : tq_S} (hB6 : ∀ (b4 : Int64) (b6 : Int32) (z : tq_S), B6 b4 b6 z → tq_T K 1 x mm_X12_goesAll 6 [.ref 51, .long a1, .null, .int a3, .long b4, .null, .int b6] [] z Q) (h : wb_X12_goesAll_6 B6 Q a1 a3 a4 a6 z) : tq_T K 1 x mm_X12_goesAll 6 [.ref 51, .long a1, .null, .int a3, .long a4, .null, .int a6] [] z Q := by
  unfold wb_X12_goesAll_6 at h
  refine tq_s_iload (i := 6) (by decide +kernel) rfl ?_
  refine tq_k_bi (n := 64) (v := (64 : Int32)) (by decide +kernel) kb_64 ?_
  refine tq_icmp_ge (off := 38) (tgt := 48) (by decide +kernel) (by decide +kernel) (fun hc => ?_) (fun hc => ?_)
  · replace h := h.1 hc
    refine tq_s_lload (i := 4) (by decide +kernel) rfl ?_
    exact tq_ret_l (st := []) (by decide +kernel) rfl h
  · replace h := h.2 hc
    refine tq_s_lload (i := 4) (by decide +kernel) rfl ?_
    refine tq_s_lload_n (kk := 1) (by decide +kernel) rfl ?_
    refine tq_s_iload (i := 6) (by decide +kernel) rfl ?_
    refine tq_s_lushr (by decide +kernel) ?_
    refine tq_k_lc (n := 1) (v := (1 : Int64)) (by decide +kernel) (by decide +kernel) ?_
    refine tq_s_land (by decide +kernel) ?_
    refine tq_k_lc (n := 1) (v := (1 : Int64)) (by decide +kernel) (by decide +kernel) ?_
    refine tq_lcmp_ne (off := 15) (tgt := 38) (by decide +kernel) (by decide +kernel) (by decide +kernel) (fun hc => ?_) (fun hc => ?_)
    · replace h := h.1 hc
      refine tq_k_lc (n := 0) (v := (0 : Int64)) (by decide +kernel) (by decide +kernel) ?_
      exact tq_to (tq_lk1 (tq_lk1 (tq_lk1 (tq_lk1 (tq_ld1 (tq_lk1 (tq_lk1 tq_l0))))))) (ac_X12_goesAll_39 hB6 h)
    · replace h := h.2 hc
      refine tq_k_lc (n := 1) (v := (1 : Int64)) (by decide +kernel) (by decide +kernel) ?_
      refine tq_s_aload_n (kk := 0) (by decide +kernel) rfl ?_
      refine tq_s_iload (i := 6) (by decide +kernel) rfl ?_
      refine tq_s_iload_n (kk := 3) (by decide +kernel) rfl ?_
      refine tq_callV (as := [.int a6, .int a3]) (st := [.long (1 : Int64), .long a4]) (d1 := 0) (x1 := 0) (x2 := x) (by decide +kernel) ln_12_388 mf_X12_goes rfl sh_51 rfl (by decide) np_X12_goes rfl (Nat.le_of_ble_eq_true rfl) (by decide) (Nat.zero_add _).symm (tq_M_mono (am_X12_goes h) ?_)
      refine tq_wi_e (fun r102 z101 h => ?_)
      refine tq_s_lshl (by decide +kernel) ?_
      refine tq_s_goto (off := 4) (tgt := 39) (by decide +kernel) (by decide +kernel) ?_
      exact tq_to (tq_lk1 (tq_lk1 (tq_lk1 (tq_lk1 (tq_ld1 (tq_lk1 (tq_lk1 tq_l0))))))) (ac_X12_goesAll_39 hB6 h)
theorem ac_X12_goesAll_6 {K : Nat × (Nat → Int32)} {x : Nat} {Q : tq_O → tq_S → Prop} {a1 : Int64} {a3 : Int32} {a4 : Int64} {a6 : Int32} {z : tq_S} (h : wc_X12_goesAll_6 Q a1 a3 a4 a6 z) : tq_T K 1 x mm_X12_goesAll 6 [.ref 51, .long a1, .null, .int a3, .long a4, .null, .int a6] [] z Q :=
  tq_lp_T (σ := Int64 × Int32 × tq_S) (s := (a4, a6, z)) (G := fun s => tq_T K 1 x mm_X12_goesAll 6 [.ref 51, .long a1, .null, .int a3, .long s.1, .null, .int s.2.1] [] s.2.2 Q) (fun B hB s h => ab_X12_goesAll_6 (fun b4 b6 z h => hB (b4, b6, z) h) h) h
def wm_X12_goesAll (a1 : Int64) (a3 : Int32) (z : tq_S) (Q : tq_O → tq_S → Prop) : Prop := wc_X12_goesAll_6 Q a1 a3 (0 : Int64) (0 : Int32) z
theorem am_X12_goesAll {K : Nat × (Nat → Int32)} {x : Nat} {z : tq_S} {Q : tq_O → tq_S → Prop} {a1 : Int64} {a3 : Int32} (h : wm_X12_goesAll a1 a3 z Q) : tq_M K 1 x mm_X12_goesAll [.ref 51, .long a1, .int a3] z Q := by
  unfold wm_X12_goesAll at h
  refine tq_enter (L := [.ref 51, .long a1, .null, .int a3, .null, .null, .null]) mf_X12_goesAll.1 rfl rfl (Nat.le_of_ble_eq_true rfl) ?_
  refine tq_k_lc (n := 0) (v := (0 : Int64)) (by decide +kernel) (by decide +kernel) ?_
  refine tq_s_lstore (i := 4) (L9 := [.ref 51, .long a1, .null, .int a3, .long (0 : Int64), .null, .null]) (by decide +kernel) (by decide) rfl ?_
  refine tq_k_ic (n := 0) (v := (0 : Int32)) (by decide +kernel) kc_0 ?_
  refine tq_s_istore (i := 6) (L9 := [.ref 51, .long a1, .null, .int a3, .long (0 : Int64), .null, .int (0 : Int32)]) (by decide +kernel) (by decide) rfl ?_
  exact ac_X12_goesAll_6 h
def wc_X12_isPlace_45 (B6 : Int32 → Int32 → tq_S → Prop) (Q : tq_O → tq_S → Prop) (a1 : Int64) (a3 : Int32) (a5 : Int32) (s0 : Int32) (s1 : Int32) (z : tq_S) : Prop := ∀ v101 : Int32, v101 = (s1 ||| s0) → ∀ v102 : Int32, v102 = a5 + (1 : Int32) → B6 v101 v102 z
theorem ac_X12_isPlace_45 {K : Nat × (Nat → Int32)} {x : Nat} {Q : tq_O → tq_S → Prop} {B6 : Int32 → Int32 → tq_S → Prop} {a1 : Int64} {a3 : Int32} {a5 : Int32} {s0 : Int32} {s1 : Int32} {z : tq_S} (hB6 : ∀ (b4 : Int32) (b5 : Int32) (z : tq_S), B6 b4 b5 z → tq_T K 0 x mm_X12_isPlace 6 [.ref 51, .long a1, .null, .int a3, .int b4, .int b5] [] z Q) (h : wc_X12_isPlace_45 B6 Q a1 a3 a5 s0 s1 z) : tq_T K 0 x mm_X12_isPlace 45 [.ref 51, .long a1, .null, .int a3, .null, .int a5] [.int s0, .int s1] z Q := by
  unfold wc_X12_isPlace_45 at h
  refine tq_s_ior (by decide +kernel) ?_
  refine tq_g_istore (i := 4) (fun v101 => [.ref 51, .long a1, .null, .int a3, .int v101, .int a5]) (by decide +kernel) (by decide) (fun _ => rfl) (fun v101 ev101 => ?_)
  replace h := h v101 ev101
  refine tq_g_iinc (i := 5) (fun v102 => [.ref 51, .long a1, .null, .int a3, .int v101, .int v102]) (by decide +kernel) rfl (1 : Int32) kc_1 (fun _ => rfl) (fun v102 ev102 => ?_)
  replace h := h v102 ev102
  refine tq_s_goto (off := -45) (tgt := 6) (by decide +kernel) (by decide +kernel) ?_
  exact hB6 _ _ _ h
def wc_X12_isPlace_44 (B6 : Int32 → Int32 → tq_S → Prop) (Q : tq_O → tq_S → Prop) (a1 : Int64) (a3 : Int32) (a5 : Int32) (s0 : Int32) (z : tq_S) : Prop := wc_X12_isPlace_45 B6 Q a1 a3 a5 (0 : Int32) s0 z
theorem ac_X12_isPlace_44 {K : Nat × (Nat → Int32)} {x : Nat} {Q : tq_O → tq_S → Prop} {B6 : Int32 → Int32 → tq_S → Prop} {a1 : Int64} {a3 : Int32} {a5 : Int32} {s0 : Int32} {z : tq_S} (hB6 : ∀ (b4 : Int32) (b5 : Int32) (z : tq_S), B6 b4 b5 z → tq_T K 0 x mm_X12_isPlace 6 [.ref 51, .long a1, .null, .int a3, .int b4, .int b5] [] z Q) (h : wc_X12_isPlace_44 B6 Q a1 a3 a5 s0 z) : tq_T K 0 x mm_X12_isPlace 44 [.ref 51, .long a1, .null, .int a3, .null, .int a5] [.int s0] z Q := by
  unfold wc_X12_isPlace_44 at h
  refine tq_k_ic (n := 0) (v := (0 : Int32)) (by decide +kernel) kc_0 ?_
  exact ac_X12_isPlace_45 hB6 h
def wb_X12_isPlace_6 (B6 : Int32 → Int32 → tq_S → Prop) (Q : tq_O → tq_S → Prop) (a1 : Int64) (a3 : Int32) (a4 : Int32) (a5 : Int32) (z : tq_S) : Prop := (((tq_fi z 3294) ≤ a5 → tq_nz a4 ∧ Q (.inl (some (.int a4))) z) ∧ (¬ (tq_fi z 3294) ≤ a5 → vp_in a5 4096 ∧ ((¬ (tq_ai z 71 (Int32.toNatClampNeg a5)) = a3 → wc_X12_isPlace_44 B6 Q a1 a3 a5 a4 z) ∧ ((tq_ai z 71 (Int32.toNatClampNeg a5)) = a3 → vp_in a5 4096 ∧ ((¬ (tq_al z 70 (Int32.toNatClampNeg a5)) = a1 → wc_X12_isPlace_44 B6 Q a1 a3 a5 a4 z) ∧ ((tq_al z 70 (Int32.toNatClampNeg a5)) = a1 → wc_X12_isPlace_45 B6 Q a1 a3 a5 (1 : Int32) a4 z))))))
def wc_X12_isPlace_6 (Q : tq_O → tq_S → Prop) (a1 : Int64) (a3 : Int32) (a4 : Int32) (a5 : Int32) (z : tq_S) : Prop := tq_lp (σ := Int32 × Int32 × tq_S) (fun B s => wb_X12_isPlace_6 (fun b4 b5 z => B (b4, b5, z)) Q a1 a3 s.1 s.2.1 s.2.2) (a4, a5, z)
theorem ab_X12_isPlace_6 {K : Nat × (Nat → Int32)} {x : Nat} {Q : tq_O → tq_S → Prop} {B6 : Int32 → Int32 → tq_S → Prop} {a1 : Int64} {a3 : Int32} {a4 : Int32} {a5 : Int32} {z : tq_S} (hB6 : ∀ (b4 : Int32) (b5 : Int32) (z : tq_S), B6 b4 b5 z → tq_T K 0 x mm_X12_isPlace 6 [.ref 51, .long a1, .null, .int a3, .int b4, .int b5] [] z Q) (h : wb_X12_isPlace_6 B6 Q a1 a3 a4 a5 z) : tq_T K 0 x mm_X12_isPlace 6 [.ref 51, .long a1, .null, .int a3, .int a4, .int a5] [] z Q := by
  unfold wb_X12_isPlace_6 at h
  refine tq_s_iload (i := 5) (by decide +kernel) rfl ?_
  refine tq_s_aload_n (kk := 0) (by decide +kernel) rfl ?_
  refine fg_12_343_51 rfl (by decide +kernel) ?_
  refine tq_icmp_ge (off := 42) (tgt := 54) (by decide +kernel) (by decide +kernel) (fun hc => ?_) (fun hc => ?_)
  · replace h := h.1 hc
    refine tq_s_iload (i := 4) (by decide +kernel) rfl ?_
    exact tq_ret_z (st := []) (ty := .boolean) (by decide +kernel) (tq_nz_f h.1).1 rfl h.2
  · replace h := h.2 hc
    refine tq_s_iload (i := 4) (by decide +kernel) rfl ?_
    refine tq_s_aload_n (kk := 0) (by decide +kernel) rfl ?_
    refine fg_12_80_51 rfl (by decide +kernel) ?_
    refine tq_s_iload (i := 5) (by decide +kernel) rfl ?_
    refine tq_s_iald (by decide +kernel) sh_71 h.1 ?_
    replace h := h.2
    refine tq_s_iload_n (kk := 3) (by decide +kernel) rfl ?_
    refine tq_icmp_ne (off := 19) (tgt := 44) (by decide +kernel) (by decide +kernel) (fun hc => ?_) (fun hc => ?_)
    · replace h := h.1 hc
      exact tq_to (tq_lk1 (tq_lk1 (tq_lk1 (tq_lk1 (tq_ld1 (tq_lk1 tq_l0)))))) (ac_X12_isPlace_44 hB6 h)
    · replace h := h.2 hc
      refine tq_s_aload_n (kk := 0) (by decide +kernel) rfl ?_
      refine fg_12_77_51 rfl (by decide +kernel) ?_
      refine tq_s_iload (i := 5) (by decide +kernel) rfl ?_
      refine tq_s_lald (by decide +kernel) sh_70 h.1 ?_
      replace h := h.2
      refine tq_s_lload_n (kk := 1) (by decide +kernel) rfl ?_
      refine tq_lcmp_ne (off := 7) (tgt := 44) (by decide +kernel) (by decide +kernel) (by decide +kernel) (fun hc => ?_) (fun hc => ?_)
      · replace h := h.1 hc
        exact tq_to (tq_lk1 (tq_lk1 (tq_lk1 (tq_lk1 (tq_ld1 (tq_lk1 tq_l0)))))) (ac_X12_isPlace_44 hB6 h)
      · replace h := h.2 hc
        refine tq_k_ic (n := 1) (v := (1 : Int32)) (by decide +kernel) kc_1 ?_
        refine tq_s_goto (off := 4) (tgt := 45) (by decide +kernel) (by decide +kernel) ?_
        exact tq_to (tq_lk1 (tq_lk1 (tq_lk1 (tq_lk1 (tq_ld1 (tq_lk1 tq_l0)))))) (ac_X12_isPlace_45 hB6 h)
theorem ac_X12_isPlace_6 {K : Nat × (Nat → Int32)} {x : Nat} {Q : tq_O → tq_S → Prop} {a1 : Int64} {a3 : Int32} {a4 : Int32} {a5 : Int32} {z : tq_S} (h : wc_X12_isPlace_6 Q a1 a3 a4 a5 z) : tq_T K 0 x mm_X12_isPlace 6 [.ref 51, .long a1, .null, .int a3, .int a4, .int a5] [] z Q :=
  tq_lp_T (σ := Int32 × Int32 × tq_S) (s := (a4, a5, z)) (G := fun s => tq_T K 0 x mm_X12_isPlace 6 [.ref 51, .long a1, .null, .int a3, .int s.1, .int s.2.1] [] s.2.2 Q) (fun B hB s h => ab_X12_isPlace_6 (fun b4 b5 z h => hB (b4, b5, z) h) h) h
def wm_X12_isPlace (a1 : Int64) (a3 : Int32) (z : tq_S) (Q : tq_O → tq_S → Prop) : Prop := wc_X12_isPlace_6 Q a1 a3 (0 : Int32) (0 : Int32) z
theorem am_X12_isPlace {K : Nat × (Nat → Int32)} {x : Nat} {z : tq_S} {Q : tq_O → tq_S → Prop} {a1 : Int64} {a3 : Int32} (h : wm_X12_isPlace a1 a3 z Q) : tq_M K 0 x mm_X12_isPlace [.ref 51, .long a1, .int a3] z Q := by
  unfold wm_X12_isPlace at h
  refine tq_enter (L := [.ref 51, .long a1, .null, .int a3, .null, .null]) mf_X12_isPlace.1 rfl rfl (Nat.le_of_ble_eq_true rfl) ?_
  refine tq_k_ic (n := 0) (v := (0 : Int32)) (by decide +kernel) kc_0 ?_
  refine tq_s_istore (i := 4) (L9 := [.ref 51, .long a1, .null, .int a3, .int (0 : Int32), .null]) (by decide +kernel) (by decide) rfl ?_
  refine tq_k_ic (n := 0) (v := (0 : Int32)) (by decide +kernel) kc_0 ?_
  refine tq_s_istore (i := 5) (L9 := [.ref 51, .long a1, .null, .int a3, .int (0 : Int32), .int (0 : Int32)]) (by decide +kernel) (by decide) rfl ?_
  exact ac_X12_isPlace_6 h
def wc_X12_isImageAhead_162 (B75 : Int32 → tq_S → Prop) (B102 : Int32 → Int32 → Int32 → tq_S → Prop) (Q : tq_O → tq_S → Prop) (a2 : Int32) (a3 : Int32) (a5 : Int32) (s0 : Int32) (z : tq_S) : Prop := ∀ v101 : Int32, v101 = a5 + (1 : Int32) → B102 a3 s0 v101 z
theorem ac_X12_isImageAhead_162 {K : Nat × (Nat → Int32)} {x : Nat} {Q : tq_O → tq_S → Prop} {B75 : Int32 → tq_S → Prop} {B102 : Int32 → Int32 → Int32 → tq_S → Prop} {a2 : Int32} {a3 : Int32} {a5 : Int32} {s0 : Int32} {z : tq_S} (hB75 : ∀ (b2 : Int32) (z : tq_S), B75 b2 z → tq_T K 2 x mm_X12_isImageAhead 75 [.ref 51, .null, .int b2, .null, .null, .null, .null, .null] [] z Q) (hB102 : ∀ (b3 : Int32) (b4 : Int32) (b5 : Int32) (z : tq_S), B102 b3 b4 b5 z → tq_T K 2 x mm_X12_isImageAhead 102 [.ref 51, .null, .int a2, .int b3, .int b4, .int b5, .null, .null] [] z Q) (h : wc_X12_isImageAhead_162 B75 B102 Q a2 a3 a5 s0 z) : tq_T K 2 x mm_X12_isImageAhead 162 [.ref 51, .null, .int a2, .int a3, .null, .int a5, .null, .null] [.int s0] z Q := by
  unfold wc_X12_isImageAhead_162 at h
  refine tq_s_istore (i := 4) (L9 := [.ref 51, .null, .int a2, .int a3, .int s0, .int a5, .null, .null]) (by decide +kernel) (by decide) rfl ?_
  refine tq_g_iinc (i := 5) (fun v101 => [.ref 51, .null, .int a2, .int a3, .int s0, .int v101, .null, .null]) (by decide +kernel) rfl (1 : Int32) kc_1 (fun _ => rfl) (fun v101 ev101 => ?_)
  replace h := h v101 ev101
  refine tq_s_goto (off := -65) (tgt := 102) (by decide +kernel) (by decide +kernel) ?_
  exact hB102 _ _ _ _ h
def wc_X12_isImageAhead_133 (B75 : Int32 → tq_S → Prop) (B102 : Int32 → Int32 → Int32 → tq_S → Prop) (Q : tq_O → tq_S → Prop) (a2 : Int32) (a4 : Int32) (a5 : Int32) (s0 : Int32) (z : tq_S) : Prop := vp_in a5 64 ∧ vp_in (tq_ai z 74 (Int32.toNatClampNeg a5)) 4096 ∧ ((¬ (((Int64.toUInt64 (tq_al z 70 (Int32.toNatClampNeg (tq_ai z 74 (Int32.toNatClampNeg a5))))) >>> ((Int32.toInt64 a2).toUInt64 &&& Int64.toUInt64 63)).toInt64 &&& (1 : Int64)) = (1 : Int64) → wc_X12_isImageAhead_162 B75 B102 Q a2 s0 a5 a4 z) ∧ ((((Int64.toUInt64 (tq_al z 70 (Int32.toNatClampNeg (tq_ai z 74 (Int32.toNatClampNeg a5))))) >>> ((Int32.toInt64 a2).toUInt64 &&& Int64.toUInt64 63)).toInt64 &&& (1 : Int64)) = (1 : Int64) → wc_X12_isImageAhead_162 B75 B102 Q a2 s0 a5 a5 z))
theorem ac_X12_isImageAhead_133 {K : Nat × (Nat → Int32)} {x : Nat} {Q : tq_O → tq_S → Prop} {B75 : Int32 → tq_S → Prop} {B102 : Int32 → Int32 → Int32 → tq_S → Prop} {a2 : Int32} {a4 : Int32} {a5 : Int32} {s0 : Int32} {z : tq_S} (hB75 : ∀ (b2 : Int32) (z : tq_S), B75 b2 z → tq_T K 2 x mm_X12_isImageAhead 75 [.ref 51, .null, .int b2, .null, .null, .null, .null, .null] [] z Q) (hB102 : ∀ (b3 : Int32) (b4 : Int32) (b5 : Int32) (z : tq_S), B102 b3 b4 b5 z → tq_T K 2 x mm_X12_isImageAhead 102 [.ref 51, .null, .int a2, .int b3, .int b4, .int b5, .null, .null] [] z Q) (h : wc_X12_isImageAhead_133 B75 B102 Q a2 a4 a5 s0 z) : tq_T K 2 x mm_X12_isImageAhead 133 [.ref 51, .null, .int a2, .null, .int a4, .int a5, .null, .null] [.int s0] z Q := by
  unfold wc_X12_isImageAhead_133 at h
  refine tq_s_istore_n (kk := 3) (L9 := [.ref 51, .null, .int a2, .int s0, .int a4, .int a5, .null, .null]) (by decide +kernel) (by decide) rfl ?_
  refine tq_s_aload_n (kk := 0) (by decide +kernel) rfl ?_
  refine fg_12_77_51 rfl (by decide +kernel) ?_
  refine tq_s_aload_n (kk := 0) (by decide +kernel) rfl ?_
  refine fg_12_89_51 rfl (by decide +kernel) ?_
  refine tq_s_iload (i := 5) (by decide +kernel) rfl ?_
  refine tq_s_iald (by decide +kernel) sh_74 h.1 ?_
  replace h := h.2
  refine tq_s_lald (by decide +kernel) sh_70 h.1 ?_
  replace h := h.2
  refine tq_s_iload_n (kk := 2) (by decide +kernel) rfl ?_
  refine tq_s_lushr (by decide +kernel) ?_
  refine tq_k_lc (n := 1) (v := (1 : Int64)) (by decide +kernel) (by decide +kernel) ?_
  refine tq_s_land (by decide +kernel) ?_
  refine tq_k_lc (n := 1) (v := (1 : Int64)) (by decide +kernel) (by decide +kernel) ?_
  refine tq_lcmp_ne (off := 8) (tgt := 160) (by decide +kernel) (by decide +kernel) (by decide +kernel) (fun hc => ?_) (fun hc => ?_)
  · replace h := h.1 hc
    refine tq_s_iload (i := 4) (by decide +kernel) rfl ?_
    exact tq_to (tq_lk1 (tq_lk1 (tq_lk1 (tq_lk1 (tq_ld1 (tq_lk1 (tq_lk1 (tq_lk1 tq_l0)))))))) (ac_X12_isImageAhead_162 hB75 hB102 h)
  · replace h := h.2 hc
    refine tq_s_iload (i := 5) (by decide +kernel) rfl ?_
    refine tq_s_goto (off := 5) (tgt := 162) (by decide +kernel) (by decide +kernel) ?_
    exact tq_to (tq_lk1 (tq_lk1 (tq_lk1 (tq_lk1 (tq_ld1 (tq_lk1 (tq_lk1 (tq_lk1 tq_l0)))))))) (ac_X12_isImageAhead_162 hB75 hB102 h)
def wc_X12_isImageAhead_221 (Q : tq_O → tq_S → Prop) (a3 : Int32) (a5 : Int64) (a7 : Int32) (z : tq_S) : Prop := vp_in a3 64 ∧ (((tq_ai z 77 (Int32.toNatClampNeg a3)) < a7 → Q (.inl (some (.int (1 : Int32)))) z) ∧ (¬ (tq_ai z 77 (Int32.toNatClampNeg a3)) < a7 → vp_in a3 64 ∧ ((¬ (tq_ai z 77 (Int32.toNatClampNeg a3)) = a7 → Q (.inl (some (.int (0 : Int32)))) z) ∧ ((tq_ai z 77 (Int32.toNatClampNeg a3)) = a7 → vp_in a3 64 ∧ wm_X12_isAhead (tq_al z 76 (Int32.toNatClampNeg a3)) a5 z (tq_wi fun r102 z101 => ((r102 = 0 → Q (.inl (some (.int (0 : Int32)))) z101) ∧ (¬ r102 = 0 → Q (.inl (some (.int (1 : Int32)))) z101)))))))
theorem ac_X12_isImageAhead_221 {K : Nat × (Nat → Int32)} {x : Nat} {Q : tq_O → tq_S → Prop} {a3 : Int32} {a5 : Int64} {a7 : Int32} {z : tq_S} (h : wc_X12_isImageAhead_221 Q a3 a5 a7 z) : tq_T K 2 x mm_X12_isImageAhead 221 [.ref 51, .null, .null, .int a3, .null, .long a5, .null, .int a7] [] z Q := by
  unfold wc_X12_isImageAhead_221 at h
  refine tq_s_aload_n (kk := 0) (by decide +kernel) rfl ?_
  refine fg_12_98_51 rfl (by decide +kernel) ?_
  refine tq_s_iload_n (kk := 3) (by decide +kernel) rfl ?_
  refine tq_s_iald (by decide +kernel) sh_77 h.1 ?_
  replace h := h.2
  refine tq_s_iload (i := 7) (by decide +kernel) rfl ?_
  refine tq_icmp_lt (off := 28) (tgt := 257) (by decide +kernel) (by decide +kernel) (fun hc => ?_) (fun hc => ?_)
  · replace h := h.1 hc
    refine tq_k_ic (n := 1) (v := (1 : Int32)) (by decide +kernel) kc_1 ?_
    refine tq_s_goto (off := 4) (tgt := 262) (by decide +kernel) (by decide +kernel) ?_
    exact tq_ret_z (st := []) (ty := .boolean) (by decide +kernel) (by decide +kernel) rfl h
  · replace h := h.2 hc
    refine tq_s_aload_n (kk := 0) (by decide +kernel) rfl ?_
    refine fg_12_98_51 rfl (by decide +kernel) ?_
    refine tq_s_iload_n (kk := 3) (by decide +kernel) rfl ?_
    refine tq_s_iald (by decide +kernel) sh_77 h.1 ?_
    replace h := h.2
    refine tq_s_iload (i := 7) (by decide +kernel) rfl ?_
    refine tq_icmp_ne (off := 21) (tgt := 261) (by decide +kernel) (by decide +kernel) (fun hc => ?_) (fun hc => ?_)
    · replace h := h.1 hc
      refine tq_k_ic (n := 0) (v := (0 : Int32)) (by decide +kernel) kc_0 ?_
      exact tq_ret_z (st := []) (ty := .boolean) (by decide +kernel) (by decide +kernel) rfl h
    · replace h := h.2 hc
      refine tq_s_aload_n (kk := 0) (by decide +kernel) rfl ?_
      refine fg_12_95_51 rfl (by decide +kernel) ?_
      refine tq_s_iload_n (kk := 3) (by decide +kernel) rfl ?_
      refine tq_s_lald (by decide +kernel) sh_76 h.1 ?_
      replace h := h.2
      refine tq_s_lload (i := 5) (by decide +kernel) rfl ?_
      refine tq_callS (as := [.long (tq_al z 76 (Int32.toNatClampNeg a3)), .long a5]) (st := []) (d1 := 0) (x1 := 0) (x2 := x) (by decide +kernel) ln_12_346 mf_X12_isAhead rfl (by decide) np_X12_isAhead rfl (Nat.le_of_ble_eq_true rfl) (by decide) (Nat.zero_add _).symm (tq_M_mono (am_X12_isAhead h) ?_)
      refine tq_wi_e (fun r102 z101 h => ?_)
      refine tq_if_eq (off := 7) (tgt := 261) (by decide +kernel) (by decide +kernel) (fun hc => ?_) (fun hc => ?_)
      · replace h := h.1 hc
        refine tq_k_ic (n := 0) (v := (0 : Int32)) (by decide +kernel) kc_0 ?_
        exact tq_ret_z (st := []) (ty := .boolean) (by decide +kernel) (by decide +kernel) rfl h
      · replace h := h.2 hc
        refine tq_k_ic (n := 1) (v := (1 : Int32)) (by decide +kernel) kc_1 ?_
        refine tq_s_goto (off := 4) (tgt := 262) (by decide +kernel) (by decide +kernel) ?_
        exact tq_ret_z (st := []) (ty := .boolean) (by decide +kernel) (by decide +kernel) rfl h
def wc_X12_isImageAhead_263 (B75 : Int32 → tq_S → Prop) (Q : tq_O → tq_S → Prop) (a2 : Int32) (z : tq_S) : Prop := ∀ v101 : Int32, v101 = a2 + (1 : Int32) → B75 v101 z
theorem ac_X12_isImageAhead_263 {K : Nat × (Nat → Int32)} {x : Nat} {Q : tq_O → tq_S → Prop} {B75 : Int32 → tq_S → Prop} {a2 : Int32} {z : tq_S} (hB75 : ∀ (b2 : Int32) (z : tq_S), B75 b2 z → tq_T K 2 x mm_X12_isImageAhead 75 [.ref 51, .null, .int b2, .null, .null, .null, .null, .null] [] z Q) (h : wc_X12_isImageAhead_263 B75 Q a2 z) : tq_T K 2 x mm_X12_isImageAhead 263 [.ref 51, .null, .int a2, .null, .null, .null, .null, .null] [] z Q := by
  unfold wc_X12_isImageAhead_263 at h
  refine tq_g_iinc (i := 2) (fun v101 => [.ref 51, .null, .int v101, .null, .null, .null, .null, .null]) (by decide +kernel) rfl (1 : Int32) kc_1 (fun _ => rfl) (fun v101 ev101 => ?_)
  replace h := h v101 ev101
  refine tq_s_goto (off := -191) (tgt := 75) (by decide +kernel) (by decide +kernel) ?_
  exact hB75 _ _ h
def wc_X12_isImageAhead_170 (B75 : Int32 → tq_S → Prop) (Q : tq_O → tq_S → Prop) (a2 : Int32) (a3 : Int32) (a4 : Int32) (z : tq_S) : Prop := vp_in a4 64 ∧ vp_in (tq_ai z 74 (Int32.toNatClampNeg a4)) 4096 ∧ ∀ v101 : Int64, v101 = (tq_al z 70 (Int32.toNatClampNeg (tq_ai z 74 (Int32.toNatClampNeg a4)))) → vp_in a4 64 ∧ vp_in (tq_ai z 74 (Int32.toNatClampNeg a4)) 4096 ∧ ∀ v102 : Int32, v102 = (tq_ai z 71 (Int32.toNatClampNeg (tq_ai z 74 (Int32.toNatClampNeg a4)))) → vp_in a3 64 ∧ ((¬ (tq_ai z 77 (Int32.toNatClampNeg a3)) = v102 → wc_X12_isImageAhead_221 Q a3 v101 v102 z) ∧ ((tq_ai z 77 (Int32.toNatClampNeg a3)) = v102 → vp_in a3 64 ∧ (((tq_al z 76 (Int32.toNatClampNeg a3)) = v101 → wc_X12_isImageAhead_263 B75 Q a2 z) ∧ (¬ (tq_al z 76 (Int32.toNatClampNeg a3)) = v101 → wc_X12_isImageAhead_221 Q a3 v101 v102 z))))
theorem ac_X12_isImageAhead_170 {K : Nat × (Nat → Int32)} {x : Nat} {Q : tq_O → tq_S → Prop} {B75 : Int32 → tq_S → Prop} {a2 : Int32} {a3 : Int32} {a4 : Int32} {z : tq_S} (hB75 : ∀ (b2 : Int32) (z : tq_S), B75 b2 z → tq_T K 2 x mm_X12_isImageAhead 75 [.ref 51, .null, .int b2, .null, .null, .null, .null, .null] [] z Q) (h : wc_X12_isImageAhead_170 B75 Q a2 a3 a4 z) : tq_T K 2 x mm_X12_isImageAhead 170 [.ref 51, .null, .int a2, .int a3, .int a4, .null, .null, .null] [] z Q := by
  unfold wc_X12_isImageAhead_170 at h
  refine tq_s_aload_n (kk := 0) (by decide +kernel) rfl ?_
  refine fg_12_77_51 rfl (by decide +kernel) ?_
  refine tq_s_aload_n (kk := 0) (by decide +kernel) rfl ?_
  refine fg_12_89_51 rfl (by decide +kernel) ?_
  refine tq_s_iload (i := 4) (by decide +kernel) rfl ?_
  refine tq_s_iald (by decide +kernel) sh_74 h.1 ?_
  replace h := h.2
  refine tq_s_lald (by decide +kernel) sh_70 h.1 ?_
  replace h := h.2
  refine tq_g_lstore (i := 5) (fun v101 => [.ref 51, .null, .int a2, .int a3, .int a4, .long v101, .null, .null]) (by decide +kernel) (by decide) (fun _ => rfl) (fun v101 ev101 => ?_)
  replace h := h v101 ev101
  refine tq_s_aload_n (kk := 0) (by decide +kernel) rfl ?_
  refine fg_12_80_51 rfl (by decide +kernel) ?_
  refine tq_s_aload_n (kk := 0) (by decide +kernel) rfl ?_
  refine fg_12_89_51 rfl (by decide +kernel) ?_
  refine tq_s_iload (i := 4) (by decide +kernel) rfl ?_
  refine tq_s_iald (by decide +kernel) sh_74 h.1 ?_
  replace h := h.2
  refine tq_s_iald (by decide +kernel) sh_71 h.1 ?_
  replace h := h.2
  refine tq_g_istore (i := 7) (fun v102 => [.ref 51, .null, .int a2, .int a3, .int a4, .long v101, .null, .int v102]) (by decide +kernel) (by decide) (fun _ => rfl) (fun v102 ev102 => ?_)
  replace h := h v102 ev102
  refine tq_s_aload_n (kk := 0) (by decide +kernel) rfl ?_
  refine fg_12_98_51 rfl (by decide +kernel) ?_
  refine tq_s_iload_n (kk := 3) (by decide +kernel) rfl ?_
  refine tq_s_iald (by decide +kernel) sh_77 h.1 ?_
  replace h := h.2
  refine tq_s_iload (i := 7) (by decide +kernel) rfl ?_
  refine tq_icmp_ne (off := 15) (tgt := 221) (by decide +kernel) (by decide +kernel) (fun hc => ?_) (fun hc => ?_)
  · replace h := h.1 hc
    exact tq_to (tq_lk1 (tq_lk1 (tq_ld1 (tq_lk1 (tq_ld1 (tq_lk1 (tq_lk1 (tq_lk1 tq_l0)))))))) (ac_X12_isImageAhead_221 h)
  · replace h := h.2 hc
    refine tq_s_aload_n (kk := 0) (by decide +kernel) rfl ?_
    refine fg_12_95_51 rfl (by decide +kernel) ?_
    refine tq_s_iload_n (kk := 3) (by decide +kernel) rfl ?_
    refine tq_s_lald (by decide +kernel) sh_76 h.1 ?_
    replace h := h.2
    refine tq_s_lload (i := 5) (by decide +kernel) rfl ?_
    refine tq_lcmp_eq (off := 45) (tgt := 263) (by decide +kernel) (by decide +kernel) (by decide +kernel) (fun hc => ?_) (fun hc => ?_)
    · replace h := h.1 hc
      exact tq_to (tq_lk1 (tq_lk1 (tq_lk1 (tq_ld1 (tq_ld1 (tq_ld1 (tq_lk1 (tq_ld1 tq_l0)))))))) (ac_X12_isImageAhead_263 hB75 h)
    · replace h := h.2 hc
      exact tq_to (tq_lk1 (tq_lk1 (tq_ld1 (tq_lk1 (tq_ld1 (tq_lk1 (tq_lk1 (tq_lk1 tq_l0)))))))) (ac_X12_isImageAhead_221 h)
def wb_X12_isImageAhead_102 (B75 : Int32 → tq_S → Prop) (B102 : Int32 → Int32 → Int32 → tq_S → Prop) (Q : tq_O → tq_S → Prop) (a2 : Int32) (a3 : Int32) (a4 : Int32) (a5 : Int32) (z : tq_S) : Prop := (((tq_fi z 3303) ≤ a5 → wc_X12_isImageAhead_170 B75 Q a2 a3 a4 z) ∧ (¬ (tq_fi z 3303) ≤ a5 → vp_in a5 64 ∧ ((¬ (((Int64.toUInt64 (tq_al z 76 (Int32.toNatClampNeg a5))) >>> ((Int32.toInt64 a2).toUInt64 &&& Int64.toUInt64 63)).toInt64 &&& (1 : Int64)) = (1 : Int64) → wc_X12_isImageAhead_133 B75 B102 Q a2 a4 a5 a3 z) ∧ ((((Int64.toUInt64 (tq_al z 76 (Int32.toNatClampNeg a5))) >>> ((Int32.toInt64 a2).toUInt64 &&& Int64.toUInt64 63)).toInt64 &&& (1 : Int64)) = (1 : Int64) → wc_X12_isImageAhead_133 B75 B102 Q a2 a4 a5 a5 z))))
def wc_X12_isImageAhead_102 (B75 : Int32 → tq_S → Prop) (Q : tq_O → tq_S → Prop) (a2 : Int32) (a3 : Int32) (a4 : Int32) (a5 : Int32) (z : tq_S) : Prop := tq_lp (σ := Int32 × Int32 × Int32 × tq_S) (fun B s => wb_X12_isImageAhead_102 B75 (fun b3 b4 b5 z => B (b3, b4, b5, z)) Q a2 s.1 s.2.1 s.2.2.1 s.2.2.2) (a3, a4, a5, z)
theorem ab_X12_isImageAhead_102 {K : Nat × (Nat → Int32)} {x : Nat} {Q : tq_O → tq_S → Prop} {B75 : Int32 → tq_S → Prop} {B102 : Int32 → Int32 → Int32 → tq_S → Prop} {a2 : Int32} {a3 : Int32} {a4 : Int32} {a5 : Int32} {z : tq_S} (hB75 : ∀ (b2 : Int32) (z : tq_S), B75 b2 z → tq_T K 2 x mm_X12_isImageAhead 75 [.ref 51, .null, .int b2, .null, .null, .null, .null, .null] [] z Q) (hB102 : ∀ (b3 : Int32) (b4 : Int32) (b5 : Int32) (z : tq_S), B102 b3 b4 b5 z → tq_T K 2 x mm_X12_isImageAhead 102 [.ref 51, .null, .int a2, .int b3, .int b4, .int b5, .null, .null] [] z Q) (h : wb_X12_isImageAhead_102 B75 B102 Q a2 a3 a4 a5 z) : tq_T K 2 x mm_X12_isImageAhead 102 [.ref 51, .null, .int a2, .int a3, .int a4, .int a5, .null, .null] [] z Q := by
  unfold wb_X12_isImageAhead_102 at h
  refine tq_s_iload (i := 5) (by decide +kernel) rfl ?_
  refine tq_s_aload_n (kk := 0) (by decide +kernel) rfl ?_
  refine fg_12_374_51 rfl (by decide +kernel) ?_
  refine tq_icmp_ge (off := 62) (tgt := 170) (by decide +kernel) (by decide +kernel) (fun hc => ?_) (fun hc => ?_)
  · replace h := h.1 hc
    exact tq_to (tq_lk1 (tq_lk1 (tq_lk1 (tq_lk1 (tq_lk1 (tq_ld1 (tq_lk1 (tq_lk1 tq_l0)))))))) (ac_X12_isImageAhead_170 hB75 h)
  · replace h := h.2 hc
    refine tq_s_aload_n (kk := 0) (by decide +kernel) rfl ?_
    refine fg_12_95_51 rfl (by decide +kernel) ?_
    refine tq_s_iload (i := 5) (by decide +kernel) rfl ?_
    refine tq_s_lald (by decide +kernel) sh_76 h.1 ?_
    replace h := h.2
    refine tq_s_iload_n (kk := 2) (by decide +kernel) rfl ?_
    refine tq_s_lushr (by decide +kernel) ?_
    refine tq_k_lc (n := 1) (v := (1 : Int64)) (by decide +kernel) (by decide +kernel) ?_
    refine tq_s_land (by decide +kernel) ?_
    refine tq_k_lc (n := 1) (v := (1 : Int64)) (by decide +kernel) (by decide +kernel) ?_
    refine tq_lcmp_ne (off := 8) (tgt := 132) (by decide +kernel) (by decide +kernel) (by decide +kernel) (fun hc => ?_) (fun hc => ?_)
    · replace h := h.1 hc
      refine tq_s_iload_n (kk := 3) (by decide +kernel) rfl ?_
      exact tq_to (tq_lk1 (tq_lk1 (tq_lk1 (tq_ld1 (tq_lk1 (tq_lk1 (tq_lk1 (tq_lk1 tq_l0)))))))) (ac_X12_isImageAhead_133 hB75 hB102 h)
    · replace h := h.2 hc
      refine tq_s_iload (i := 5) (by decide +kernel) rfl ?_
      refine tq_s_goto (off := 4) (tgt := 133) (by decide +kernel) (by decide +kernel) ?_
      exact tq_to (tq_lk1 (tq_lk1 (tq_lk1 (tq_ld1 (tq_lk1 (tq_lk1 (tq_lk1 (tq_lk1 tq_l0)))))))) (ac_X12_isImageAhead_133 hB75 hB102 h)
theorem ac_X12_isImageAhead_102 {K : Nat × (Nat → Int32)} {x : Nat} {Q : tq_O → tq_S → Prop} {B75 : Int32 → tq_S → Prop} {a2 : Int32} {a3 : Int32} {a4 : Int32} {a5 : Int32} {z : tq_S} (hB75 : ∀ (b2 : Int32) (z : tq_S), B75 b2 z → tq_T K 2 x mm_X12_isImageAhead 75 [.ref 51, .null, .int b2, .null, .null, .null, .null, .null] [] z Q) (h : wc_X12_isImageAhead_102 B75 Q a2 a3 a4 a5 z) : tq_T K 2 x mm_X12_isImageAhead 102 [.ref 51, .null, .int a2, .int a3, .int a4, .int a5, .null, .null] [] z Q :=
  tq_lp_T (σ := Int32 × Int32 × Int32 × tq_S) (s := (a3, a4, a5, z)) (G := fun s => tq_T K 2 x mm_X12_isImageAhead 102 [.ref 51, .null, .int a2, .int s.1, .int s.2.1, .int s.2.2.1, .null, .null] [] s.2.2.2 Q) (fun B hB s h => ab_X12_isImageAhead_102 hB75 (fun b3 b4 b5 z h => hB (b3, b4, b5, z) h) h) h
def wb_X12_isImageAhead_75 (B75 : Int32 → tq_S → Prop) (Q : tq_O → tq_S → Prop) (a2 : Int32) (z : tq_S) : Prop := (((64 : Int32) ≤ a2 → Q (.inl (some (.int (0 : Int32)))) z) ∧ (¬ (64 : Int32) ≤ a2 → ((¬ (((Int64.toUInt64 (tq_fl z 3306)) >>> ((Int32.toInt64 a2).toUInt64 &&& Int64.toUInt64 63)).toInt64 &&& (1 : Int64)) = (1 : Int64) → wc_X12_isImageAhead_263 B75 Q a2 z) ∧ ((((Int64.toUInt64 (tq_fl z 3306)) >>> ((Int32.toInt64 a2).toUInt64 &&& Int64.toUInt64 63)).toInt64 &&& (1 : Int64)) = (1 : Int64) → wc_X12_isImageAhead_102 B75 Q a2 (-1 : Int32) (-1 : Int32) (0 : Int32) z))))
def wc_X12_isImageAhead_75 (Q : tq_O → tq_S → Prop) (a2 : Int32) (z : tq_S) : Prop := tq_lp (σ := Int32 × tq_S) (fun B s => wb_X12_isImageAhead_75 (fun b2 z => B (b2, z)) Q s.1 s.2) (a2, z)
theorem ab_X12_isImageAhead_75 {K : Nat × (Nat → Int32)} {x : Nat} {Q : tq_O → tq_S → Prop} {B75 : Int32 → tq_S → Prop} {a2 : Int32} {z : tq_S} (hB75 : ∀ (b2 : Int32) (z : tq_S), B75 b2 z → tq_T K 2 x mm_X12_isImageAhead 75 [.ref 51, .null, .int b2, .null, .null, .null, .null, .null] [] z Q) (h : wb_X12_isImageAhead_75 B75 Q a2 z) : tq_T K 2 x mm_X12_isImageAhead 75 [.ref 51, .null, .int a2, .null, .null, .null, .null, .null] [] z Q := by
  unfold wb_X12_isImageAhead_75 at h
  refine tq_s_iload_n (kk := 2) (by decide +kernel) rfl ?_
  refine tq_k_bi (n := 64) (v := (64 : Int32)) (by decide +kernel) kb_64 ?_
  refine tq_icmp_ge (off := 191) (tgt := 269) (by decide +kernel) (by decide +kernel) (fun hc => ?_) (fun hc => ?_)
  · replace h := h.1 hc
    refine tq_k_ic (n := 0) (v := (0 : Int32)) (by decide +kernel) kc_0 ?_
    exact tq_ret_z (st := []) (ty := .boolean) (by decide +kernel) (by decide +kernel) rfl h
  · replace h := h.2 hc
    refine tq_s_aload_n (kk := 0) (by decide +kernel) rfl ?_
    refine fg_12_350_51 rfl (by decide +kernel) ?_
    refine tq_s_iload_n (kk := 2) (by decide +kernel) rfl ?_
    refine tq_s_lushr (by decide +kernel) ?_
    refine tq_k_lc (n := 1) (v := (1 : Int64)) (by decide +kernel) (by decide +kernel) ?_
    refine tq_s_land (by decide +kernel) ?_
    refine tq_k_lc (n := 1) (v := (1 : Int64)) (by decide +kernel) (by decide +kernel) ?_
    refine tq_lcmp_ne (off := 172) (tgt := 263) (by decide +kernel) (by decide +kernel) (by decide +kernel) (fun hc => ?_) (fun hc => ?_)
    · replace h := h.1 hc
      exact ac_X12_isImageAhead_263 hB75 h
    · replace h := h.2 hc
      refine tq_k_ic (n := -1) (v := (-1 : Int32)) (by decide +kernel) kc_m1 ?_
      refine tq_s_istore_n (kk := 3) (L9 := [.ref 51, .null, .int a2, .int (-1 : Int32), .null, .null, .null, .null]) (by decide +kernel) (by decide) rfl ?_
      refine tq_k_ic (n := -1) (v := (-1 : Int32)) (by decide +kernel) kc_m1 ?_
      refine tq_s_istore (i := 4) (L9 := [.ref 51, .null, .int a2, .int (-1 : Int32), .int (-1 : Int32), .null, .null, .null]) (by decide +kernel) (by decide) rfl ?_
      refine tq_k_ic (n := 0) (v := (0 : Int32)) (by decide +kernel) kc_0 ?_
      refine tq_s_istore (i := 5) (L9 := [.ref 51, .null, .int a2, .int (-1 : Int32), .int (-1 : Int32), .int (0 : Int32), .null, .null]) (by decide +kernel) (by decide) rfl ?_
      exact ac_X12_isImageAhead_102 hB75 h
theorem ac_X12_isImageAhead_75 {K : Nat × (Nat → Int32)} {x : Nat} {Q : tq_O → tq_S → Prop} {a2 : Int32} {z : tq_S} (h : wc_X12_isImageAhead_75 Q a2 z) : tq_T K 2 x mm_X12_isImageAhead 75 [.ref 51, .null, .int a2, .null, .null, .null, .null, .null] [] z Q :=
  tq_lp_T (σ := Int32 × tq_S) (s := (a2, z)) (G := fun s => tq_T K 2 x mm_X12_isImageAhead 75 [.ref 51, .null, .int s.1, .null, .null, .null, .null, .null] [] s.2 Q) (fun B hB s h => ab_X12_isImageAhead_75 (fun b2 z h => hB (b2, z) h) h) h
def wc_X12_isImageAhead_73 (Q : tq_O → tq_S → Prop)  (z : tq_S) : Prop := wc_X12_isImageAhead_75 Q (0 : Int32) z
theorem ac_X12_isImageAhead_73 {K : Nat × (Nat → Int32)} {x : Nat} {Q : tq_O → tq_S → Prop}  {z : tq_S} (h : wc_X12_isImageAhead_73 Q z) : tq_T K 2 x mm_X12_isImageAhead 73 [.ref 51, .null, .null, .null, .null, .null, .null, .null] [] z Q := by
  unfold wc_X12_isImageAhead_73 at h
  refine tq_k_ic (n := 0) (v := (0 : Int32)) (by decide +kernel) kc_0 ?_
  refine tq_s_istore_n (kk := 2) (L9 := [.ref 51, .null, .int (0 : Int32), .null, .null, .null, .null, .null]) (by decide +kernel) (by decide) rfl ?_
  exact ac_X12_isImageAhead_75 h
def wb_X12_isImageAhead_2 (B2 : Int32 → tq_S → Prop) (Q : tq_O → tq_S → Prop) (a1 : Int32) (a2 : Int32) (z : tq_S) : Prop := (((tq_fi z 3303) ≤ a2 → wc_X12_isImageAhead_73 Q z) ∧ (¬ (tq_fi z 3303) ≤ a2 → vp_in a2 64 ∧ vp_in (tq_ai z 74 (Int32.toNatClampNeg a2)) 4096 ∧ wm_X12_goesAll (tq_al z 70 (Int32.toNatClampNeg (tq_ai z 74 (Int32.toNatClampNeg a2)))) a1 z (tq_wl fun r102 z101 => vp_in a2 64 ∧ ∀ z103 : tq_S, z103 = tq_sal z101 76 (vp_updL (tq_al z101 76) (Int32.toNatClampNeg a2) r102) → vp_in a2 64 ∧ vp_in (tq_ai z103 74 (Int32.toNatClampNeg a2)) 4096 ∧ vp_in a2 64 ∧ ∀ z104 : tq_S, z104 = tq_sai z103 77 (upd (tq_ai z103 77) (Int32.toNatClampNeg a2) (tq_ai z103 71 (Int32.toNatClampNeg (tq_ai z103 74 (Int32.toNatClampNeg a2))))) → vp_in a2 64 ∧ wm_X12_isPlace r102 (tq_ai z104 77 (Int32.toNatClampNeg a2)) z104 (tq_wi fun r106 z105 => ((¬ r106 = 0 → ∀ v107 : Int32, v107 = a2 + (1 : Int32) → B2 v107 z105) ∧ (r106 = 0 → Q (.inl (some (.int (0 : Int32)))) z105))))))
def wc_X12_isImageAhead_2 (Q : tq_O → tq_S → Prop) (a1 : Int32) (a2 : Int32) (z : tq_S) : Prop := tq_lp (σ := Int32 × tq_S) (fun B s => wb_X12_isImageAhead_2 (fun b2 z => B (b2, z)) Q a1 s.1 s.2) (a2, z)
theorem ab_X12_isImageAhead_2 {K : Nat × (Nat → Int32)} {x : Nat} {Q : tq_O → tq_S → Prop} {B2 : Int32 → tq_S → Prop} {a1 : Int32} {a2 : Int32} {z : tq_S} (hB2 : ∀ (b2 : Int32) (z : tq_S), B2 b2 z → tq_T K 2 x mm_X12_isImageAhead 2 [.ref 51, .int a1, .int b2, .null, .null, .null, .null, .null] [] z Q) (h : wb_X12_isImageAhead_2 B2 Q a1 a2 z) : tq_T K 2 x mm_X12_isImageAhead 2 [.ref 51, .int a1, .int a2, .null, .null, .null, .null, .null] [] z Q := by
  unfold wb_X12_isImageAhead_2 at h
  refine tq_s_iload_n (kk := 2) (by decide +kernel) rfl ?_
  refine tq_s_aload_n (kk := 0) (by decide +kernel) rfl ?_
  refine fg_12_374_51 rfl (by decide +kernel) ?_
  refine tq_icmp_ge (off := 66) (tgt := 73) (by decide +kernel) (by decide +kernel) (fun hc => ?_) (fun hc => ?_)
  · replace h := h.1 hc
    exact tq_to (tq_lk1 (tq_ld1 (tq_ld1 (tq_lk1 (tq_lk1 (tq_lk1 (tq_lk1 (tq_lk1 tq_l0)))))))) (ac_X12_isImageAhead_73 h)
  · replace h := h.2 hc
    refine tq_s_aload_n (kk := 0) (by decide +kernel) rfl ?_
    refine tq_s_aload_n (kk := 0) (by decide +kernel) rfl ?_
    refine fg_12_77_51 rfl (by decide +kernel) ?_
    refine tq_s_aload_n (kk := 0) (by decide +kernel) rfl ?_
    refine fg_12_89_51 rfl (by decide +kernel) ?_
    refine tq_s_iload_n (kk := 2) (by decide +kernel) rfl ?_
    refine tq_s_iald (by decide +kernel) sh_74 h.1 ?_
    replace h := h.2
    refine tq_s_lald (by decide +kernel) sh_70 h.1 ?_
    replace h := h.2
    refine tq_s_iload_n (kk := 1) (by decide +kernel) rfl ?_
    refine tq_callV (as := [.long (tq_al z 70 (Int32.toNatClampNeg (tq_ai z 74 (Int32.toNatClampNeg a2)))), .int a1]) (st := []) (d1 := 1) (x1 := 0) (x2 := x) (by decide +kernel) ln_12_391 mf_X12_goesAll rfl sh_51 rfl (by decide) np_X12_goesAll rfl (Nat.le_of_ble_eq_true rfl) (by decide) (Nat.zero_add _).symm (tq_M_mono (am_X12_goesAll h) ?_)
    refine tq_wl_e (fun r102 z101 h => ?_)
    refine tq_s_lstore_n (kk := 3) (L9 := [.ref 51, .int a1, .int a2, .long r102, .null, .null, .null, .null]) (by decide +kernel) (by decide) rfl ?_
    refine tq_s_aload_n (kk := 0) (by decide +kernel) rfl ?_
    refine fg_12_95_51 rfl (by decide +kernel) ?_
    refine tq_s_iload_n (kk := 2) (by decide +kernel) rfl ?_
    refine tq_s_lload_n (kk := 3) (by decide +kernel) rfl ?_
    refine tq_g_last (by decide +kernel) sh_76 h.1 (fun z103 ez103 => ?_)
    replace h := h.2 z103 ez103
    refine tq_s_aload_n (kk := 0) (by decide +kernel) rfl ?_
    refine fg_12_98_51 rfl (by decide +kernel) ?_
    refine tq_s_iload_n (kk := 2) (by decide +kernel) rfl ?_
    refine tq_s_aload_n (kk := 0) (by decide +kernel) rfl ?_
    refine fg_12_80_51 rfl (by decide +kernel) ?_
    refine tq_s_aload_n (kk := 0) (by decide +kernel) rfl ?_
    refine fg_12_89_51 rfl (by decide +kernel) ?_
    refine tq_s_iload_n (kk := 2) (by decide +kernel) rfl ?_
    refine tq_s_iald (by decide +kernel) sh_74 h.1 ?_
    replace h := h.2
    refine tq_s_iald (by decide +kernel) sh_71 h.1 ?_
    replace h := h.2
    refine tq_g_iast (by decide +kernel) sh_77 h.1 (fun z104 ez104 => ?_)
    replace h := h.2 z104 ez104
    refine tq_s_aload_n (kk := 0) (by decide +kernel) rfl ?_
    refine tq_s_lload_n (kk := 3) (by decide +kernel) rfl ?_
    refine tq_s_aload_n (kk := 0) (by decide +kernel) rfl ?_
    refine fg_12_98_51 rfl (by decide +kernel) ?_
    refine tq_s_iload_n (kk := 2) (by decide +kernel) rfl ?_
    refine tq_s_iald (by decide +kernel) sh_77 h.1 ?_
    replace h := h.2
    refine tq_callV (as := [.long r102, .int (tq_ai z104 77 (Int32.toNatClampNeg a2))]) (st := []) (d1 := 0) (x1 := 0) (x2 := x) (by decide +kernel) ln_12_398 mf_X12_isPlace rfl sh_51 rfl (by decide) np_X12_isPlace rfl (Nat.le_of_ble_eq_true rfl) (by decide) (Nat.zero_add _).symm (tq_M_mono (am_X12_isPlace h) ?_)
    refine tq_wi_e (fun r106 z105 h => ?_)
    refine tq_if_ne (off := 5) (tgt := 67) (by decide +kernel) (by decide +kernel) (fun hc => ?_) (fun hc => ?_)
    · replace h := h.1 hc
      refine tq_g_iinc (i := 2) (fun v107 => [.ref 51, .int a1, .int v107, .long r102, .null, .null, .null, .null]) (by decide +kernel) rfl (1 : Int32) kc_1 (fun _ => rfl) (fun v107 ev107 => ?_)
      replace h := h v107 ev107
      refine tq_s_goto (off := -68) (tgt := 2) (by decide +kernel) (by decide +kernel) ?_
      exact tq_to (tq_lk1 (tq_lk1 (tq_lk1 (tq_ld1 (tq_lk1 (tq_lk1 (tq_lk1 (tq_lk1 tq_l0)))))))) (hB2 _ _ h)
    · replace h := h.2 hc
      refine tq_k_ic (n := 0) (v := (0 : Int32)) (by decide +kernel) kc_0 ?_
      exact tq_ret_z (st := []) (ty := .boolean) (by decide +kernel) (by decide +kernel) rfl h
theorem ac_X12_isImageAhead_2 {K : Nat × (Nat → Int32)} {x : Nat} {Q : tq_O → tq_S → Prop} {a1 : Int32} {a2 : Int32} {z : tq_S} (h : wc_X12_isImageAhead_2 Q a1 a2 z) : tq_T K 2 x mm_X12_isImageAhead 2 [.ref 51, .int a1, .int a2, .null, .null, .null, .null, .null] [] z Q :=
  tq_lp_T (σ := Int32 × tq_S) (s := (a2, z)) (G := fun s => tq_T K 2 x mm_X12_isImageAhead 2 [.ref 51, .int a1, .int s.1, .null, .null, .null, .null, .null] [] s.2 Q) (fun B hB s h => ab_X12_isImageAhead_2 (fun b2 z h => hB (b2, z) h) h) h
def wm_X12_isImageAhead (a1 : Int32) (z : tq_S) (Q : tq_O → tq_S → Prop) : Prop := wc_X12_isImageAhead_2 Q a1 (0 : Int32) z
theorem am_X12_isImageAhead {K : Nat × (Nat → Int32)} {x : Nat} {z : tq_S} {Q : tq_O → tq_S → Prop} {a1 : Int32} (h : wm_X12_isImageAhead a1 z Q) : tq_M K 2 x mm_X12_isImageAhead [.ref 51, .int a1] z Q := by
  unfold wm_X12_isImageAhead at h
  refine tq_enter (L := [.ref 51, .int a1, .null, .null, .null, .null, .null, .null]) mf_X12_isImageAhead.1 rfl rfl (Nat.le_of_ble_eq_true rfl) ?_
  refine tq_k_ic (n := 0) (v := (0 : Int32)) (by decide +kernel) kc_0 ?_
  refine tq_s_istore_n (kk := 2) (L9 := [.ref 51, .int a1, .int (0 : Int32), .null, .null, .null, .null, .null]) (by decide +kernel) (by decide) rfl ?_
  exact ac_X12_isImageAhead_2 h
def wc_X12_isFirstOfAlike_60 (B4 : Int32 → Int32 → tq_S → Prop) (Q : tq_O → tq_S → Prop) (a1 : Int32) (a2 : Int32) (z : tq_S) : Prop := ∀ v101 : Int32, v101 = a2 + (1 : Int32) → B4 a1 v101 z
theorem ac_X12_isFirstOfAlike_60 {K : Nat × (Nat → Int32)} {x : Nat} {Q : tq_O → tq_S → Prop} {B4 : Int32 → Int32 → tq_S → Prop} {a1 : Int32} {a2 : Int32} {z : tq_S} (hB4 : ∀ (b1 : Int32) (b2 : Int32) (z : tq_S), B4 b1 b2 z → tq_T K 3 x mm_X12_isFirstOfAlike 4 [.ref 51, .int b1, .int b2] [] z Q) (h : wc_X12_isFirstOfAlike_60 B4 Q a1 a2 z) : tq_T K 3 x mm_X12_isFirstOfAlike 60 [.ref 51, .int a1, .int a2] [] z Q := by
  unfold wc_X12_isFirstOfAlike_60 at h
  refine tq_g_iinc (i := 2) (fun v101 => [.ref 51, .int a1, .int v101]) (by decide +kernel) rfl (1 : Int32) kc_1 (fun _ => rfl) (fun v101 ev101 => ?_)
  replace h := h v101 ev101
  refine tq_s_goto (off := -59) (tgt := 4) (by decide +kernel) (by decide +kernel) ?_
  exact hB4 _ _ _ h
def wc_X12_isFirstOfAlike_59 (B4 : Int32 → Int32 → tq_S → Prop) (Q : tq_O → tq_S → Prop) (a2 : Int32) (s0 : Int32) (z : tq_S) : Prop := wc_X12_isFirstOfAlike_60 B4 Q s0 a2 z
theorem ac_X12_isFirstOfAlike_59 {K : Nat × (Nat → Int32)} {x : Nat} {Q : tq_O → tq_S → Prop} {B4 : Int32 → Int32 → tq_S → Prop} {a2 : Int32} {s0 : Int32} {z : tq_S} (hB4 : ∀ (b1 : Int32) (b2 : Int32) (z : tq_S), B4 b1 b2 z → tq_T K 3 x mm_X12_isFirstOfAlike 4 [.ref 51, .int b1, .int b2] [] z Q) (h : wc_X12_isFirstOfAlike_59 B4 Q a2 s0 z) : tq_T K 3 x mm_X12_isFirstOfAlike 59 [.ref 51, .null, .int a2] [.int s0] z Q := by
  unfold wc_X12_isFirstOfAlike_59 at h
  refine tq_s_istore_n (kk := 1) (L9 := [.ref 51, .int s0, .int a2]) (by decide +kernel) (by decide) rfl ?_
  exact ac_X12_isFirstOfAlike_60 hB4 h
def wc_X12_isFirstOfAlike_22 (B4 : Int32 → Int32 → tq_S → Prop) (Q : tq_O → tq_S → Prop) (a1 : Int32) (a2 : Int32) (s0 : Int32) (s1 : Int32) (z : tq_S) : Prop := ((s0 ≤ s1 → tq_nz a1 ∧ Q (.inl (some (.int a1))) z) ∧ (¬ s0 ≤ s1 → ((a1 = 0 → tq_nz a1 ∧ Q (.inl (some (.int a1))) z) ∧ (¬ a1 = 0 → wm_X12_goesAll (tq_fl z 3306) a2 z (tq_wl fun r102 z101 => ((¬ r102 = (tq_fl z101 3306) → wc_X12_isFirstOfAlike_60 B4 Q a1 a2 z101) ∧ (r102 = (tq_fl z101 3306) → wm_X12_isImageAhead a2 z101 (tq_wi fun r104 z103 => ((¬ r104 = 0 → wc_X12_isFirstOfAlike_59 B4 Q a2 (0 : Int32) z103) ∧ (r104 = 0 → wc_X12_isFirstOfAlike_59 B4 Q a2 (1 : Int32) z103))))))))))
theorem ac_X12_isFirstOfAlike_22 {K : Nat × (Nat → Int32)} {x : Nat} {Q : tq_O → tq_S → Prop} {B4 : Int32 → Int32 → tq_S → Prop} {a1 : Int32} {a2 : Int32} {s0 : Int32} {s1 : Int32} {z : tq_S} (hB4 : ∀ (b1 : Int32) (b2 : Int32) (z : tq_S), B4 b1 b2 z → tq_T K 3 x mm_X12_isFirstOfAlike 4 [.ref 51, .int b1, .int b2] [] z Q) (h : wc_X12_isFirstOfAlike_22 B4 Q a1 a2 s0 s1 z) : tq_T K 3 x mm_X12_isFirstOfAlike 22 [.ref 51, .int a1, .int a2] [.int s0, .int s1] z Q := by
  unfold wc_X12_isFirstOfAlike_22 at h
  refine tq_icmp_ge (off := 44) (tgt := 66) (by decide +kernel) (by decide +kernel) (fun hc => ?_) (fun hc => ?_)
  · replace h := h.1 hc
    refine tq_s_iload_n (kk := 1) (by decide +kernel) rfl ?_
    exact tq_ret_z (st := []) (ty := .boolean) (by decide +kernel) (tq_nz_f h.1).1 rfl h.2
  · replace h := h.2 hc
    refine tq_s_iload_n (kk := 1) (by decide +kernel) rfl ?_
    refine tq_if_eq (off := 40) (tgt := 66) (by decide +kernel) (by decide +kernel) (fun hc => ?_) (fun hc => ?_)
    · replace h := h.1 hc
      refine tq_s_iload_n (kk := 1) (by decide +kernel) rfl ?_
      exact tq_ret_z (st := []) (ty := .boolean) (by decide +kernel) (tq_nz_f h.1).1 rfl h.2
    · replace h := h.2 hc
      refine tq_s_aload_n (kk := 0) (by decide +kernel) rfl ?_
      refine tq_s_aload_n (kk := 0) (by decide +kernel) rfl ?_
      refine fg_12_350_51 rfl (by decide +kernel) ?_
      refine tq_s_iload_n (kk := 2) (by decide +kernel) rfl ?_
      refine tq_callV (as := [.long (tq_fl z 3306), .int a2]) (st := []) (d1 := 1) (x1 := 0) (x2 := x) (by decide +kernel) ln_12_391 mf_X12_goesAll rfl sh_51 rfl (by decide) np_X12_goesAll rfl (Nat.le_of_ble_eq_true rfl) (by decide) (Nat.zero_add _).symm (tq_M_mono (am_X12_goesAll h) ?_)
      refine tq_wl_e (fun r102 z101 h => ?_)
      refine tq_s_aload_n (kk := 0) (by decide +kernel) rfl ?_
      refine fg_12_350_51 rfl (by decide +kernel) ?_
      refine tq_lcmp_ne (off := 17) (tgt := 60) (by decide +kernel) (by decide +kernel) (by decide +kernel) (fun hc => ?_) (fun hc => ?_)
      · replace h := h.1 hc
        exact ac_X12_isFirstOfAlike_60 hB4 h
      · replace h := h.2 hc
        refine tq_s_aload_n (kk := 0) (by decide +kernel) rfl ?_
        refine tq_s_iload_n (kk := 2) (by decide +kernel) rfl ?_
        refine tq_callV (as := [.int a2]) (st := []) (d1 := 2) (x1 := 0) (x2 := x) (by decide +kernel) ln_12_395 mf_X12_isImageAhead rfl sh_51 rfl (by decide) np_X12_isImageAhead rfl (Nat.le_of_ble_eq_true rfl) (by decide) (Nat.zero_add _).symm (tq_M_mono (am_X12_isImageAhead h) ?_)
        refine tq_wi_e (fun r104 z103 h => ?_)
        refine tq_if_ne (off := 7) (tgt := 58) (by decide +kernel) (by decide +kernel) (fun hc => ?_) (fun hc => ?_)
        · replace h := h.1 hc
          refine tq_k_ic (n := 0) (v := (0 : Int32)) (by decide +kernel) kc_0 ?_
          exact tq_to (tq_lk1 (tq_ld1 (tq_lk1 tq_l0))) (ac_X12_isFirstOfAlike_59 hB4 h)
        · replace h := h.2 hc
          refine tq_k_ic (n := 1) (v := (1 : Int32)) (by decide +kernel) kc_1 ?_
          refine tq_s_goto (off := 4) (tgt := 59) (by decide +kernel) (by decide +kernel) ?_
          exact tq_to (tq_lk1 (tq_ld1 (tq_lk1 tq_l0))) (ac_X12_isFirstOfAlike_59 hB4 h)
def wb_X12_isFirstOfAlike_4 (B4 : Int32 → Int32 → tq_S → Prop) (Q : tq_O → tq_S → Prop) (a1 : Int32) (a2 : Int32) (z : tq_S) : Prop := ((¬ (tq_fi z 3265) = (tq_fi z 3266) → wc_X12_isFirstOfAlike_22 B4 Q a1 a2 (4 : Int32) a2 z) ∧ ((tq_fi z 3265) = (tq_fi z 3266) → wc_X12_isFirstOfAlike_22 B4 Q a1 a2 (8 : Int32) a2 z))
def wc_X12_isFirstOfAlike_4 (Q : tq_O → tq_S → Prop) (a1 : Int32) (a2 : Int32) (z : tq_S) : Prop := tq_lp (σ := Int32 × Int32 × tq_S) (fun B s => wb_X12_isFirstOfAlike_4 (fun b1 b2 z => B (b1, b2, z)) Q s.1 s.2.1 s.2.2) (a1, a2, z)
theorem ab_X12_isFirstOfAlike_4 {K : Nat × (Nat → Int32)} {x : Nat} {Q : tq_O → tq_S → Prop} {B4 : Int32 → Int32 → tq_S → Prop} {a1 : Int32} {a2 : Int32} {z : tq_S} (hB4 : ∀ (b1 : Int32) (b2 : Int32) (z : tq_S), B4 b1 b2 z → tq_T K 3 x mm_X12_isFirstOfAlike 4 [.ref 51, .int b1, .int b2] [] z Q) (h : wb_X12_isFirstOfAlike_4 B4 Q a1 a2 z) : tq_T K 3 x mm_X12_isFirstOfAlike 4 [.ref 51, .int a1, .int a2] [] z Q := by
  unfold wb_X12_isFirstOfAlike_4 at h
  refine tq_s_iload_n (kk := 2) (by decide +kernel) rfl ?_
  refine tq_s_aload_n (kk := 0) (by decide +kernel) rfl ?_
  refine fg_12_7_51 rfl (by decide +kernel) ?_
  refine tq_s_aload_n (kk := 0) (by decide +kernel) rfl ?_
  refine fg_12_13_51 rfl (by decide +kernel) ?_
  refine tq_icmp_ne (off := 8) (tgt := 21) (by decide +kernel) (by decide +kernel) (fun hc => ?_) (fun hc => ?_)
  · replace h := h.1 hc
    refine tq_k_ic (n := 4) (v := (4 : Int32)) (by decide +kernel) kc_4 ?_
    exact ac_X12_isFirstOfAlike_22 hB4 h
  · replace h := h.2 hc
    refine tq_k_bi (n := 8) (v := (8 : Int32)) (by decide +kernel) kb_8 ?_
    refine tq_s_goto (off := 4) (tgt := 22) (by decide +kernel) (by decide +kernel) ?_
    exact ac_X12_isFirstOfAlike_22 hB4 h
theorem ac_X12_isFirstOfAlike_4 {K : Nat × (Nat → Int32)} {x : Nat} {Q : tq_O → tq_S → Prop} {a1 : Int32} {a2 : Int32} {z : tq_S} (h : wc_X12_isFirstOfAlike_4 Q a1 a2 z) : tq_T K 3 x mm_X12_isFirstOfAlike 4 [.ref 51, .int a1, .int a2] [] z Q :=
  tq_lp_T (σ := Int32 × Int32 × tq_S) (s := (a1, a2, z)) (G := fun s => tq_T K 3 x mm_X12_isFirstOfAlike 4 [.ref 51, .int s.1, .int s.2.1] [] s.2.2 Q) (fun B hB s h => ab_X12_isFirstOfAlike_4 (fun b1 b2 z h => hB (b1, b2, z) h) h) h
def wm_X12_isFirstOfAlike  (z : tq_S) (Q : tq_O → tq_S → Prop) : Prop := wc_X12_isFirstOfAlike_4 Q (1 : Int32) (1 : Int32) z
theorem am_X12_isFirstOfAlike {K : Nat × (Nat → Int32)} {x : Nat} {z : tq_S} {Q : tq_O → tq_S → Prop}  (h : wm_X12_isFirstOfAlike z Q) : tq_M K 3 x mm_X12_isFirstOfAlike [.ref 51] z Q := by
  unfold wm_X12_isFirstOfAlike at h
  refine tq_enter (L := [.ref 51, .null, .null]) mf_X12_isFirstOfAlike.1 rfl rfl (Nat.le_of_ble_eq_true rfl) ?_
  refine tq_k_ic (n := 1) (v := (1 : Int32)) (by decide +kernel) kc_1 ?_
  refine tq_s_istore_n (kk := 1) (L9 := [.ref 51, .int (1 : Int32), .null]) (by decide +kernel) (by decide) rfl ?_
  refine tq_k_ic (n := 1) (v := (1 : Int32)) (by decide +kernel) kc_1 ?_
  refine tq_s_istore_n (kk := 2) (L9 := [.ref 51, .int (1 : Int32), .int (1 : Int32)]) (by decide +kernel) (by decide) rfl ?_
  exact ac_X12_isFirstOfAlike_4 h
def wc_X12_search_67 (R : Int64 → tq_S → (tq_O → tq_S → Prop) → Prop) (Q : tq_O → tq_S → Prop)  (z : tq_S) : Prop := ∀ z101 : tq_S, z101 = tq_sfi z 3299 ((tq_fi z 3299) + (1 : Int32)) → Q (.inl none) z101
theorem ac_X12_search_67 {K : Nat × (Nat → Int32)} {x : Nat} {Q : tq_O → tq_S → Prop} {n : Nat} {R : Int64 → tq_S → (tq_O → tq_S → Prop) → Prop}  {z : tq_S} (hR : ∀ (a1 : Int64) (z : tq_S) (Q : tq_O → tq_S → Prop), R a1 z Q → tq_M K (3 + n) 0 mm_X12_search [.ref 51, .long a1] z Q) (h : wc_X12_search_67 R Q z) : tq_T K (3 + n + 1) x mm_X12_search 67 [.ref 51, .null, .null, .null, .null] [] z Q := by
  unfold wc_X12_search_67 at h
  refine tq_s_aload_n (kk := 0) (by decide +kernel) rfl ?_
  refine tq_s_dup (by decide +kernel) rfl ?_
  refine fg_12_368_51 rfl (by decide +kernel) ?_
  refine tq_k_ic (n := 1) (v := (1 : Int32)) (by decide +kernel) kc_1 ?_
  refine tq_s_iadd (by decide +kernel) ?_
  refine fp_12_368_51 rfl (by decide +kernel) (fun z101 ez101 => ?_)
  replace h := h z101 ez101
  exact tq_ret_v (st := []) (by decide +kernel) rfl h
def wc_X12_search_59 (R : Int64 → tq_S → (tq_O → tq_S → Prop) → Prop) (Q : tq_O → tq_S → Prop)  (z : tq_S) : Prop := ∀ z101 : tq_S, z101 = tq_sfi z 3305 (tq_fi z 3303) → wc_X12_search_67 R Q z101
theorem ac_X12_search_59 {K : Nat × (Nat → Int32)} {x : Nat} {Q : tq_O → tq_S → Prop} {n : Nat} {R : Int64 → tq_S → (tq_O → tq_S → Prop) → Prop}  {z : tq_S} (hR : ∀ (a1 : Int64) (z : tq_S) (Q : tq_O → tq_S → Prop), R a1 z Q → tq_M K (3 + n) 0 mm_X12_search [.ref 51, .long a1] z Q) (h : wc_X12_search_59 R Q z) : tq_T K (3 + n + 1) x mm_X12_search 59 [.ref 51, .null, .null, .null, .null] [] z Q := by
  unfold wc_X12_search_59 at h
  refine tq_s_aload_n (kk := 0) (by decide +kernel) rfl ?_
  refine tq_s_aload_n (kk := 0) (by decide +kernel) rfl ?_
  refine fg_12_374_51 rfl (by decide +kernel) ?_
  refine fp_12_377_51 rfl (by decide +kernel) (fun z101 ez101 => ?_)
  replace h := h z101 ez101
  exact ac_X12_search_67 hR h
def wb_X12_search_33 (R : Int64 → tq_S → (tq_O → tq_S → Prop) → Prop) (B33 : Int32 → tq_S → Prop) (Q : tq_O → tq_S → Prop) (a3 : Int32) (z : tq_S) : Prop := (((tq_fi z 3303) ≤ a3 → wc_X12_search_59 R Q z) ∧ (¬ (tq_fi z 3303) ≤ a3 → vp_in a3 64 ∧ vp_in a3 64 ∧ ∀ z101 : tq_S, z101 = tq_sai z 75 (upd (tq_ai z 75) (Int32.toNatClampNeg a3) (tq_ai z 74 (Int32.toNatClampNeg a3))) → ∀ v102 : Int32, v102 = a3 + (1 : Int32) → B33 v102 z101))
def wc_X12_search_33 (R : Int64 → tq_S → (tq_O → tq_S → Prop) → Prop) (Q : tq_O → tq_S → Prop) (a3 : Int32) (z : tq_S) : Prop := tq_lp (σ := Int32 × tq_S) (fun B s => wb_X12_search_33 R (fun b3 z => B (b3, z)) Q s.1 s.2) (a3, z)
theorem ab_X12_search_33 {K : Nat × (Nat → Int32)} {x : Nat} {Q : tq_O → tq_S → Prop} {n : Nat} {R : Int64 → tq_S → (tq_O → tq_S → Prop) → Prop} {B33 : Int32 → tq_S → Prop} {a3 : Int32} {z : tq_S} (hR : ∀ (a1 : Int64) (z : tq_S) (Q : tq_O → tq_S → Prop), R a1 z Q → tq_M K (3 + n) 0 mm_X12_search [.ref 51, .long a1] z Q) (hB33 : ∀ (b3 : Int32) (z : tq_S), B33 b3 z → tq_T K (3 + n + 1) x mm_X12_search 33 [.ref 51, .null, .null, .int b3, .null] [] z Q) (h : wb_X12_search_33 R B33 Q a3 z) : tq_T K (3 + n + 1) x mm_X12_search 33 [.ref 51, .null, .null, .int a3, .null] [] z Q := by
  unfold wb_X12_search_33 at h
  refine tq_s_iload_n (kk := 3) (by decide +kernel) rfl ?_
  refine tq_s_aload_n (kk := 0) (by decide +kernel) rfl ?_
  refine fg_12_374_51 rfl (by decide +kernel) ?_
  refine tq_icmp_ge (off := 21) (tgt := 59) (by decide +kernel) (by decide +kernel) (fun hc => ?_) (fun hc => ?_)
  · replace h := h.1 hc
    exact tq_to (tq_lk1 (tq_lk1 (tq_lk1 (tq_ld1 (tq_lk1 tq_l0))))) (ac_X12_search_59 hR h)
  · replace h := h.2 hc
    refine tq_s_aload_n (kk := 0) (by decide +kernel) rfl ?_
    refine fg_12_92_51 rfl (by decide +kernel) ?_
    refine tq_s_iload_n (kk := 3) (by decide +kernel) rfl ?_
    refine tq_s_aload_n (kk := 0) (by decide +kernel) rfl ?_
    refine fg_12_89_51 rfl (by decide +kernel) ?_
    refine tq_s_iload_n (kk := 3) (by decide +kernel) rfl ?_
    refine tq_s_iald (by decide +kernel) sh_74 h.1 ?_
    replace h := h.2
    refine tq_g_iast (by decide +kernel) sh_75 h.1 (fun z101 ez101 => ?_)
    replace h := h.2 z101 ez101
    refine tq_g_iinc (i := 3) (fun v102 => [.ref 51, .null, .null, .int v102, .null]) (by decide +kernel) rfl (1 : Int32) kc_1 (fun _ => rfl) (fun v102 ev102 => ?_)
    replace h := h v102 ev102
    refine tq_s_goto (off := -23) (tgt := 33) (by decide +kernel) (by decide +kernel) ?_
    exact hB33 _ _ h
theorem ac_X12_search_33 {K : Nat × (Nat → Int32)} {x : Nat} {Q : tq_O → tq_S → Prop} {n : Nat} {R : Int64 → tq_S → (tq_O → tq_S → Prop) → Prop} {a3 : Int32} {z : tq_S} (hR : ∀ (a1 : Int64) (z : tq_S) (Q : tq_O → tq_S → Prop), R a1 z Q → tq_M K (3 + n) 0 mm_X12_search [.ref 51, .long a1] z Q) (h : wc_X12_search_33 R Q a3 z) : tq_T K (3 + n + 1) x mm_X12_search 33 [.ref 51, .null, .null, .int a3, .null] [] z Q :=
  tq_lp_T (σ := Int32 × tq_S) (s := (a3, z)) (G := fun s => tq_T K (3 + n + 1) x mm_X12_search 33 [.ref 51, .null, .null, .int s.1, .null] [] s.2 Q) (fun B hB s h => ab_X12_search_33 hR (fun b3 z h => hB (b3, z) h) h) h
def wc_X12_search_20 (R : Int64 → tq_S → (tq_O → tq_S → Prop) → Prop) (Q : tq_O → tq_S → Prop)  (z : tq_S) : Prop := ((¬ (tq_fi z 3299) = (tq_fi z 3300) → wc_X12_search_67 R Q z) ∧ ((tq_fi z 3299) = (tq_fi z 3300) → wc_X12_search_33 R Q (0 : Int32) z))
theorem ac_X12_search_20 {K : Nat × (Nat → Int32)} {x : Nat} {Q : tq_O → tq_S → Prop} {n : Nat} {R : Int64 → tq_S → (tq_O → tq_S → Prop) → Prop}  {z : tq_S} (hR : ∀ (a1 : Int64) (z : tq_S) (Q : tq_O → tq_S → Prop), R a1 z Q → tq_M K (3 + n) 0 mm_X12_search [.ref 51, .long a1] z Q) (h : wc_X12_search_20 R Q z) : tq_T K (3 + n + 1) x mm_X12_search 20 [.ref 51, .null, .null, .null, .null] [] z Q := by
  unfold wc_X12_search_20 at h
  refine tq_s_aload_n (kk := 0) (by decide +kernel) rfl ?_
  refine fg_12_368_51 rfl (by decide +kernel) ?_
  refine tq_s_aload_n (kk := 0) (by decide +kernel) rfl ?_
  refine fg_12_371_51 rfl (by decide +kernel) ?_
  refine tq_icmp_ne (off := 39) (tgt := 67) (by decide +kernel) (by decide +kernel) (fun hc => ?_) (fun hc => ?_)
  · replace h := h.1 hc
    exact ac_X12_search_67 hR h
  · replace h := h.2 hc
    refine tq_k_ic (n := 0) (v := (0 : Int32)) (by decide +kernel) kc_0 ?_
    refine tq_s_istore_n (kk := 3) (L9 := [.ref 51, .null, .null, .int (0 : Int32), .null]) (by decide +kernel) (by decide) rfl ?_
    exact ac_X12_search_33 hR h
def wc_X12_search_238 (R : Int64 → tq_S → (tq_O → tq_S → Prop) → Prop) (B86 : Int32 → tq_S → Prop) (Q : tq_O → tq_S → Prop) (a1 : Int64) (a3 : Int32) (a4 : Int32) (z : tq_S) : Prop := ∀ v101 : Int32, v101 = a4 + (1 : Int32) → B86 v101 z
theorem ac_X12_search_238 {K : Nat × (Nat → Int32)} {x : Nat} {Q : tq_O → tq_S → Prop} {n : Nat} {R : Int64 → tq_S → (tq_O → tq_S → Prop) → Prop} {B86 : Int32 → tq_S → Prop} {a1 : Int64} {a3 : Int32} {a4 : Int32} {z : tq_S} (hR : ∀ (a1 : Int64) (z : tq_S) (Q : tq_O → tq_S → Prop), R a1 z Q → tq_M K (3 + n) 0 mm_X12_search [.ref 51, .long a1] z Q) (hB86 : ∀ (b4 : Int32) (z : tq_S), B86 b4 z → tq_T K (3 + n + 1) x mm_X12_search 86 [.ref 51, .long a1, .null, .int a3, .int b4] [] z Q) (h : wc_X12_search_238 R B86 Q a1 a3 a4 z) : tq_T K (3 + n + 1) x mm_X12_search 238 [.ref 51, .long a1, .null, .int a3, .int a4] [] z Q := by
  unfold wc_X12_search_238 at h
  refine tq_g_iinc (i := 4) (fun v101 => [.ref 51, .long a1, .null, .int a3, .int v101]) (by decide +kernel) rfl (1 : Int32) kc_1 (fun _ => rfl) (fun v101 ev101 => ?_)
  replace h := h v101 ev101
  refine tq_s_goto (off := -155) (tgt := 86) (by decide +kernel) (by decide +kernel) ?_
  exact hB86 _ _ h
def wc_X12_search_114 (R : Int64 → tq_S → (tq_O → tq_S → Prop) → Prop) (B86 : Int32 → tq_S → Prop) (Q : tq_O → tq_S → Prop) (a1 : Int64) (a3 : Int32) (a4 : Int32) (z : tq_S) : Prop := vp_in a4 4096 ∧ ((¬ (tq_ai z 72 (Int32.toNatClampNeg a4)) = a3 → wc_X12_search_238 R B86 Q a1 a3 a4 z) ∧ ((tq_ai z 72 (Int32.toNatClampNeg a4)) = a3 → vp_in a4 4096 ∧ ((¬ ((tq_al z 70 (Int32.toNatClampNeg a4)) &&& (a1 ^^^ (-1 : Int64))) = (0 : Int64) → wc_X12_search_238 R B86 Q a1 a3 a4 z) ∧ (((tq_al z 70 (Int32.toNatClampNeg a4)) &&& (a1 ^^^ (-1 : Int64))) = (0 : Int64) → vp_in a4 4096 ∧ vp_in (tq_ai z 71 (Int32.toNatClampNeg a4)) 6 ∧ (((tq_ai z 73 (Int32.toNatClampNeg (tq_ai z 71 (Int32.toNatClampNeg a4)))) ≤ 0 → wc_X12_search_238 R B86 Q a1 a3 a4 z) ∧ (¬ (tq_ai z 73 (Int32.toNatClampNeg (tq_ai z 71 (Int32.toNatClampNeg a4)))) ≤ 0 → vp_in a4 4096 ∧ vp_in (tq_ai z 71 (Int32.toNatClampNeg a4)) 6 ∧ vp_in (tq_ai z 71 (Int32.toNatClampNeg a4)) 6 ∧ ∀ z101 : tq_S, z101 = tq_sai z 73 (upd (tq_ai z 73) (Int32.toNatClampNeg (tq_ai z 71 (Int32.toNatClampNeg a4))) ((tq_ai z 73 (Int32.toNatClampNeg (tq_ai z 71 (Int32.toNatClampNeg a4)))) - (1 : Int32))) → vp_in (tq_fi z101 3303) 64 ∧ ∀ z102 : tq_S, z102 = tq_sai z101 74 (upd (tq_ai z101 74) (Int32.toNatClampNeg (tq_fi z101 3303)) a4) → ∀ z103 : tq_S, z103 = tq_sfi z102 3303 ((tq_fi z102 3303) + (1 : Int32)) → vp_in a4 4096 ∧ R (a1 &&& ((tq_al z103 70 (Int32.toNatClampNeg a4)) ^^^ (-1 : Int64))) z103 (tq_wv fun z104 => ∀ z105 : tq_S, z105 = tq_sfi z104 3303 ((tq_fi z104 3303) - (1 : Int32)) → vp_in a4 4096 ∧ vp_in (tq_ai z105 71 (Int32.toNatClampNeg a4)) 6 ∧ vp_in (tq_ai z105 71 (Int32.toNatClampNeg a4)) 6 ∧ ∀ z106 : tq_S, z106 = tq_sai z105 73 (upd (tq_ai z105 73) (Int32.toNatClampNeg (tq_ai z105 71 (Int32.toNatClampNeg a4))) ((tq_ai z105 73 (Int32.toNatClampNeg (tq_ai z105 71 (Int32.toNatClampNeg a4)))) + (1 : Int32))) → wc_X12_search_238 R B86 Q a1 a3 a4 z106)))))))
theorem ac_X12_search_114 {K : Nat × (Nat → Int32)} {x : Nat} {Q : tq_O → tq_S → Prop} {n : Nat} {R : Int64 → tq_S → (tq_O → tq_S → Prop) → Prop} {B86 : Int32 → tq_S → Prop} {a1 : Int64} {a3 : Int32} {a4 : Int32} {z : tq_S} (hR : ∀ (a1 : Int64) (z : tq_S) (Q : tq_O → tq_S → Prop), R a1 z Q → tq_M K (3 + n) 0 mm_X12_search [.ref 51, .long a1] z Q) (hB86 : ∀ (b4 : Int32) (z : tq_S), B86 b4 z → tq_T K (3 + n + 1) x mm_X12_search 86 [.ref 51, .long a1, .null, .int a3, .int b4] [] z Q) (h : wc_X12_search_114 R B86 Q a1 a3 a4 z) : tq_T K (3 + n + 1) x mm_X12_search 114 [.ref 51, .long a1, .null, .int a3, .int a4] [] z Q := by
  unfold wc_X12_search_114 at h
  refine tq_s_aload_n (kk := 0) (by decide +kernel) rfl ?_
  refine fg_12_83_51 rfl (by decide +kernel) ?_
  refine tq_s_iload (i := 4) (by decide +kernel) rfl ?_
  refine tq_s_iald (by decide +kernel) sh_72 h.1 ?_
  replace h := h.2
  refine tq_s_iload_n (kk := 3) (by decide +kernel) rfl ?_
  refine tq_icmp_ne (off := 116) (tgt := 238) (by decide +kernel) (by decide +kernel) (fun hc => ?_) (fun hc => ?_)
  · replace h := h.1 hc
    exact ac_X12_search_238 hR hB86 h
  · replace h := h.2 hc
    refine tq_s_aload_n (kk := 0) (by decide +kernel) rfl ?_
    refine fg_12_77_51 rfl (by decide +kernel) ?_
    refine tq_s_iload (i := 4) (by decide +kernel) rfl ?_
    refine tq_s_lald (by decide +kernel) sh_70 h.1 ?_
    replace h := h.2
    refine tq_s_lload_n (kk := 1) (by decide +kernel) rfl ?_
    refine tq_s_ldc2 (i := 380) (v := (-1 : Int64)) (by decide +kernel) (by decide +kernel) ?_
    refine tq_s_lxor (by decide +kernel) ?_
    refine tq_s_land (by decide +kernel) ?_
    refine tq_k_lc (n := 0) (v := (0 : Int64)) (by decide +kernel) (by decide +kernel) ?_
    refine tq_lcmp_ne (off := 98) (tgt := 238) (by decide +kernel) (by decide +kernel) (by decide +kernel) (fun hc => ?_) (fun hc => ?_)
    · replace h := h.1 hc
      exact ac_X12_search_238 hR hB86 h
    · replace h := h.2 hc
      refine tq_s_aload_n (kk := 0) (by decide +kernel) rfl ?_
      refine fg_12_86_51 rfl (by decide +kernel) ?_
      refine tq_s_aload_n (kk := 0) (by decide +kernel) rfl ?_
      refine fg_12_80_51 rfl (by decide +kernel) ?_
      refine tq_s_iload (i := 4) (by decide +kernel) rfl ?_
      refine tq_s_iald (by decide +kernel) sh_71 h.1 ?_
      replace h := h.2
      refine tq_s_iald (by decide +kernel) sh_73 h.1 ?_
      replace h := h.2
      refine tq_if_le (off := 83) (tgt := 238) (by decide +kernel) (by decide +kernel) (fun hc => ?_) (fun hc => ?_)
      · replace h := h.1 hc
        exact ac_X12_search_238 hR hB86 h
      · replace h := h.2 hc
        refine tq_s_aload_n (kk := 0) (by decide +kernel) rfl ?_
        refine fg_12_86_51 rfl (by decide +kernel) ?_
        refine tq_s_aload_n (kk := 0) (by decide +kernel) rfl ?_
        refine fg_12_80_51 rfl (by decide +kernel) ?_
        refine tq_s_iload (i := 4) (by decide +kernel) rfl ?_
        refine tq_s_iald (by decide +kernel) sh_71 h.1 ?_
        replace h := h.2
        refine tq_s_dup2_11 (by decide +kernel) rfl rfl ?_
        refine tq_s_iald (by decide +kernel) sh_73 h.1 ?_
        replace h := h.2
        refine tq_k_ic (n := 1) (v := (1 : Int32)) (by decide +kernel) kc_1 ?_
        refine tq_s_isub (by decide +kernel) ?_
        refine tq_g_iast (by decide +kernel) sh_73 h.1 (fun z101 ez101 => ?_)
        replace h := h.2 z101 ez101
        refine tq_s_aload_n (kk := 0) (by decide +kernel) rfl ?_
        refine fg_12_89_51 rfl (by decide +kernel) ?_
        refine tq_s_aload_n (kk := 0) (by decide +kernel) rfl ?_
        refine fg_12_374_51 rfl (by decide +kernel) ?_
        refine tq_s_iload (i := 4) (by decide +kernel) rfl ?_
        refine tq_g_iast (by decide +kernel) sh_74 h.1 (fun z102 ez102 => ?_)
        replace h := h.2 z102 ez102
        refine tq_s_aload_n (kk := 0) (by decide +kernel) rfl ?_
        refine tq_s_dup (by decide +kernel) rfl ?_
        refine fg_12_374_51 rfl (by decide +kernel) ?_
        refine tq_k_ic (n := 1) (v := (1 : Int32)) (by decide +kernel) kc_1 ?_
        refine tq_s_iadd (by decide +kernel) ?_
        refine fp_12_374_51 rfl (by decide +kernel) (fun z103 ez103 => ?_)
        replace h := h z103 ez103
        refine tq_s_aload_n (kk := 0) (by decide +kernel) rfl ?_
        refine tq_s_lload_n (kk := 1) (by decide +kernel) rfl ?_
        refine tq_s_aload_n (kk := 0) (by decide +kernel) rfl ?_
        refine fg_12_77_51 rfl (by decide +kernel) ?_
        refine tq_s_iload (i := 4) (by decide +kernel) rfl ?_
        refine tq_s_lald (by decide +kernel) sh_70 h.1 ?_
        replace h := h.2
        refine tq_s_ldc2 (i := 380) (v := (-1 : Int64)) (by decide +kernel) (by decide +kernel) ?_
        refine tq_s_lxor (by decide +kernel) ?_
        refine tq_s_land (by decide +kernel) ?_
        refine tq_callV (as := [.long (a1 &&& ((tq_al z103 70 (Int32.toNatClampNeg a4)) ^^^ (-1 : Int64)))]) (st := []) (d1 := (3 + n)) (x1 := 0) (x2 := x) (by decide +kernel) ln_12_382 mf_X12_search rfl sh_51 rfl (by decide) np_X12_search rfl (Nat.le_of_ble_eq_true rfl) (by omega) (Nat.zero_add _).symm (tq_M_mono (hR _ _ _ h) ?_)
        refine tq_wv_e (fun z104 h => ?_)
        refine tq_s_aload_n (kk := 0) (by decide +kernel) rfl ?_
        refine tq_s_dup (by decide +kernel) rfl ?_
        refine fg_12_374_51 rfl (by decide +kernel) ?_
        refine tq_k_ic (n := 1) (v := (1 : Int32)) (by decide +kernel) kc_1 ?_
        refine tq_s_isub (by decide +kernel) ?_
        refine fp_12_374_51 rfl (by decide +kernel) (fun z105 ez105 => ?_)
        replace h := h z105 ez105
        refine tq_s_aload_n (kk := 0) (by decide +kernel) rfl ?_
        refine fg_12_86_51 rfl (by decide +kernel) ?_
        refine tq_s_aload_n (kk := 0) (by decide +kernel) rfl ?_
        refine fg_12_80_51 rfl (by decide +kernel) ?_
        refine tq_s_iload (i := 4) (by decide +kernel) rfl ?_
        refine tq_s_iald (by decide +kernel) sh_71 h.1 ?_
        replace h := h.2
        refine tq_s_dup2_11 (by decide +kernel) rfl rfl ?_
        refine tq_s_iald (by decide +kernel) sh_73 h.1 ?_
        replace h := h.2
        refine tq_k_ic (n := 1) (v := (1 : Int32)) (by decide +kernel) kc_1 ?_
        refine tq_s_iadd (by decide +kernel) ?_
        refine tq_g_iast (by decide +kernel) sh_73 h.1 (fun z106 ez106 => ?_)
        replace h := h.2 z106 ez106
        exact ac_X12_search_238 hR hB86 h
def wb_X12_search_86 (R : Int64 → tq_S → (tq_O → tq_S → Prop) → Prop) (B86 : Int32 → tq_S → Prop) (Q : tq_O → tq_S → Prop) (a1 : Int64) (a3 : Int32) (a4 : Int32) (z : tq_S) : Prop := (((tq_fi z 3294) ≤ a4 → Q (.inl none) z) ∧ (¬ (tq_fi z 3294) ≤ a4 → (((tq_fi z 3300) = (-1 : Int32) → wc_X12_search_114 R B86 Q a1 a3 a4 z) ∧ (¬ (tq_fi z 3300) = (-1 : Int32) → (((tq_fi z 3300) < (tq_fi z 3299) → Q (.inl none) z) ∧ (¬ (tq_fi z 3300) < (tq_fi z 3299) → wc_X12_search_114 R B86 Q a1 a3 a4 z))))))
def wc_X12_search_86 (R : Int64 → tq_S → (tq_O → tq_S → Prop) → Prop) (Q : tq_O → tq_S → Prop) (a1 : Int64) (a3 : Int32) (a4 : Int32) (z : tq_S) : Prop := tq_lp (σ := Int32 × tq_S) (fun B s => wb_X12_search_86 R (fun b4 z => B (b4, z)) Q a1 a3 s.1 s.2) (a4, z)
theorem ab_X12_search_86 {K : Nat × (Nat → Int32)} {x : Nat} {Q : tq_O → tq_S → Prop} {n : Nat} {R : Int64 → tq_S → (tq_O → tq_S → Prop) → Prop} {B86 : Int32 → tq_S → Prop} {a1 : Int64} {a3 : Int32} {a4 : Int32} {z : tq_S} (hR : ∀ (a1 : Int64) (z : tq_S) (Q : tq_O → tq_S → Prop), R a1 z Q → tq_M K (3 + n) 0 mm_X12_search [.ref 51, .long a1] z Q) (hB86 : ∀ (b4 : Int32) (z : tq_S), B86 b4 z → tq_T K (3 + n + 1) x mm_X12_search 86 [.ref 51, .long a1, .null, .int a3, .int b4] [] z Q) (h : wb_X12_search_86 R B86 Q a1 a3 a4 z) : tq_T K (3 + n + 1) x mm_X12_search 86 [.ref 51, .long a1, .null, .int a3, .int a4] [] z Q := by
  unfold wb_X12_search_86 at h
  refine tq_s_iload (i := 4) (by decide +kernel) rfl ?_
  refine tq_s_aload_n (kk := 0) (by decide +kernel) rfl ?_
  refine fg_12_343_51 rfl (by decide +kernel) ?_
  refine tq_icmp_ge (off := 152) (tgt := 244) (by decide +kernel) (by decide +kernel) (fun hc => ?_) (fun hc => ?_)
  · replace h := h.1 hc
    exact tq_ret_v (st := []) (by decide +kernel) rfl h
  · replace h := h.2 hc
    refine tq_s_aload_n (kk := 0) (by decide +kernel) rfl ?_
    refine fg_12_371_51 rfl (by decide +kernel) ?_
    refine tq_k_ic (n := -1) (v := (-1 : Int32)) (by decide +kernel) kc_m1 ?_
    refine tq_icmp_eq (off := 14) (tgt := 114) (by decide +kernel) (by decide +kernel) (fun hc => ?_) (fun hc => ?_)
    · replace h := h.1 hc
      exact ac_X12_search_114 hR hB86 h
    · replace h := h.2 hc
      refine tq_s_aload_n (kk := 0) (by decide +kernel) rfl ?_
      refine fg_12_368_51 rfl (by decide +kernel) ?_
      refine tq_s_aload_n (kk := 0) (by decide +kernel) rfl ?_
      refine fg_12_371_51 rfl (by decide +kernel) ?_
      refine tq_icmp_gt (off := 133) (tgt := 244) (by decide +kernel) (by decide +kernel) (fun hc => ?_) (fun hc => ?_)
      · replace h := h.1 hc
        exact tq_ret_v (st := []) (by decide +kernel) rfl h
      · replace h := h.2 hc
        exact ac_X12_search_114 hR hB86 h
theorem ac_X12_search_86 {K : Nat × (Nat → Int32)} {x : Nat} {Q : tq_O → tq_S → Prop} {n : Nat} {R : Int64 → tq_S → (tq_O → tq_S → Prop) → Prop} {a1 : Int64} {a3 : Int32} {a4 : Int32} {z : tq_S} (hR : ∀ (a1 : Int64) (z : tq_S) (Q : tq_O → tq_S → Prop), R a1 z Q → tq_M K (3 + n) 0 mm_X12_search [.ref 51, .long a1] z Q) (h : wc_X12_search_86 R Q a1 a3 a4 z) : tq_T K (3 + n + 1) x mm_X12_search 86 [.ref 51, .long a1, .null, .int a3, .int a4] [] z Q :=
  tq_lp_T (σ := Int32 × tq_S) (s := (a4, z)) (G := fun s => tq_T K (3 + n + 1) x mm_X12_search 86 [.ref 51, .long a1, .null, .int a3, .int s.1] [] s.2 Q) (fun B hB s h => ab_X12_search_86 hR (fun b4 z h => hB (b4, z) h) h) h
def we_X12_search (R : Int64 → tq_S → (tq_O → tq_S → Prop) → Prop) (a1 : Int64) (z : tq_S) (Q : tq_O → tq_S → Prop) : Prop := ((¬ a1 = (0 : Int64) → wm_X12_lowest a1 z (tq_wi fun r2 z1 => wc_X12_search_86 R Q a1 r2 (0 : Int32) z1)) ∧ (a1 = (0 : Int64) → (((tq_fi z 3301) = 0 → wc_X12_search_20 R Q z) ∧ (¬ (tq_fi z 3301) = 0 → wm_X12_isFirstOfAlike z (tq_wi fun r4 z3 => ((r4 = 0 → Q (.inl none) z3) ∧ (¬ r4 = 0 → wc_X12_search_20 R Q z3)))))))
def wm_X12_search : Nat → Int64 → tq_S → (tq_O → tq_S → Prop) → Prop
  | 0, _, _, _ => False
  | n + 1, a1, z, Q => we_X12_search (wm_X12_search n) a1 z Q
theorem ae_X12_search {K : Nat × (Nat → Int32)} {x : Nat} {n : Nat} {R : Int64 → tq_S → (tq_O → tq_S → Prop) → Prop} {a1 : Int64} {z : tq_S} {Q : tq_O → tq_S → Prop} (hR : ∀ (a1 : Int64) (z : tq_S) (Q : tq_O → tq_S → Prop), R a1 z Q → tq_M K (3 + n) 0 mm_X12_search [.ref 51, .long a1] z Q) (h : we_X12_search R a1 z Q) : tq_M K (3 + n + 1) x mm_X12_search [.ref 51, .long a1] z Q := by
  unfold we_X12_search at h
  refine tq_enter (L := [.ref 51, .long a1, .null, .null, .null]) mf_X12_search.1 rfl rfl (Nat.le_of_ble_eq_true rfl) ?_
  refine tq_s_lload_n (kk := 1) (by decide +kernel) rfl ?_
  refine tq_k_lc (n := 0) (v := (0 : Int64)) (by decide +kernel) (by decide +kernel) ?_
  refine tq_lcmp_ne (off := 75) (tgt := 78) (by decide +kernel) (by decide +kernel) (by decide +kernel) (fun hc => ?_) (fun hc => ?_)
  · replace h := h.1 hc
    refine tq_s_lload_n (kk := 1) (by decide +kernel) rfl ?_
    refine tq_callS (as := [.long a1]) (st := []) (d1 := 0) (x1 := 0) (x2 := x) (by decide +kernel) ln_12_340 mf_X12_lowest rfl (by decide) np_X12_lowest rfl (Nat.le_of_ble_eq_true rfl) (by omega) (Nat.zero_add _).symm (tq_M_mono (am_X12_lowest h) ?_)
    refine tq_wi_e (fun r2 z1 h => ?_)
    refine tq_s_istore_n (kk := 3) (L9 := [.ref 51, .long a1, .null, .int r2, .null]) (by decide +kernel) (by decide) rfl ?_
    refine tq_k_ic (n := 0) (v := (0 : Int32)) (by decide +kernel) kc_0 ?_
    refine tq_s_istore (i := 4) (L9 := [.ref 51, .long a1, .null, .int r2, .int (0 : Int32)]) (by decide +kernel) (by decide) rfl ?_
    exact ac_X12_search_86 hR h
  · replace h := h.2 hc
    refine tq_s_aload_n (kk := 0) (by decide +kernel) rfl ?_
    refine fg_12_361_51 rfl (by decide +kernel) ?_
    refine tq_if_eq (off := 10) (tgt := 20) (by decide +kernel) (by decide +kernel) (fun hc => ?_) (fun hc => ?_)
    · replace h := h.1 hc
      exact tq_to (tq_lk1 (tq_ld1 (tq_lk1 (tq_lk1 (tq_lk1 tq_l0))))) (ac_X12_search_20 hR h)
    · replace h := h.2 hc
      refine tq_s_aload_n (kk := 0) (by decide +kernel) rfl ?_
      refine tq_callV (as := []) (st := []) (d1 := 3) (x1 := 0) (x2 := x) (by decide +kernel) ln_12_364 mf_X12_isFirstOfAlike rfl sh_51 rfl (by decide) np_X12_isFirstOfAlike rfl (Nat.le_of_ble_eq_true rfl) (by omega) (Nat.zero_add _).symm (tq_M_mono (am_X12_isFirstOfAlike h) ?_)
      refine tq_wi_e (fun r4 z3 h => ?_)
      refine tq_if_eq (off := 60) (tgt := 77) (by decide +kernel) (by decide +kernel) (fun hc => ?_) (fun hc => ?_)
      · replace h := h.1 hc
        exact tq_ret_v (st := []) (by decide +kernel) rfl h
      · replace h := h.2 hc
        exact tq_to (tq_lk1 (tq_ld1 (tq_lk1 (tq_lk1 (tq_lk1 tq_l0))))) (ac_X12_search_20 hR h)
theorem am_X12_search {K : Nat × (Nat → Int32)} : ∀ (n : Nat) {x : Nat} {a1 : Int64} {z : tq_S} {Q : tq_O → tq_S → Prop} (h : wm_X12_search n a1 z Q), tq_M K (3 + n) x mm_X12_search [.ref 51, .long a1] z Q
  | 0, _, _, _, _, h => False.elim h
  | n + 1, _, _, _, _, h => ae_X12_search (n := n) (fun _ _ _ h => am_X12_search n h) h
def wm_X12_searched (a1 : Int32) (a2 : Int32) (z : tq_S) (Q : tq_O → tq_S → Prop) : Prop := wm_X12_tellPlaces z (tq_wv fun z1 => ∀ z2 : tq_S, z2 = tq_sfi z1 3299 (0 : Int32) → ∀ z3 : tq_S, z3 = tq_sfi z2 3300 a1 → tq_nz a2 ∧ ∀ z4 : tq_S, z4 = tq_sfi z3 3301 a2 → ∀ z5 : tq_S, z5 = tq_sfi z4 3303 (0 : Int32) → wm_X12_search 40 (tq_fl z5 3306) z5 (tq_wv fun z6 => Q (.inl (some (.int (tq_fi z6 3299)))) z6))
theorem am_X12_searched {K : Nat × (Nat → Int32)} {x : Nat} {z : tq_S} {Q : tq_O → tq_S → Prop} {a1 : Int32} {a2 : Int32} (h : wm_X12_searched a1 a2 z Q) : tq_M K 44 x mm_X12_searched [.ref 51, .int a1, .int a2] z Q := by
  unfold wm_X12_searched at h
  refine tq_enter (L := [.ref 51, .int a1, .int a2]) mf_X12_searched.1 rfl rfl (Nat.le_of_ble_eq_true rfl) ?_
  refine tq_s_aload_n (kk := 0) (by decide +kernel) rfl ?_
  refine tq_callV (as := []) (st := []) (d1 := 3) (x1 := 0) (x2 := x) (by decide +kernel) ln_12_385 mf_X12_tellPlaces rfl sh_51 rfl (by decide) np_X12_tellPlaces rfl (Nat.le_of_ble_eq_true rfl) (by decide) (Nat.zero_add _).symm (tq_M_mono (am_X12_tellPlaces h) ?_)
  refine tq_wv_e (fun z1 h => ?_)
  refine tq_s_aload_n (kk := 0) (by decide +kernel) rfl ?_
  refine tq_k_ic (n := 0) (v := (0 : Int32)) (by decide +kernel) kc_0 ?_
  refine fp_12_368_51 rfl (by decide +kernel) (fun z2 ez2 => ?_)
  replace h := h z2 ez2
  refine tq_s_aload_n (kk := 0) (by decide +kernel) rfl ?_
  refine tq_s_iload_n (kk := 1) (by decide +kernel) rfl ?_
  refine fp_12_371_51 rfl (by decide +kernel) (fun z3 ez3 => ?_)
  replace h := h z3 ez3
  refine tq_s_aload_n (kk := 0) (by decide +kernel) rfl ?_
  refine tq_s_iload_n (kk := 2) (by decide +kernel) rfl ?_
  refine fp_12_361_51 rfl (by decide +kernel) (tq_nz_f h.1) (fun z4 ez4 => ?_)
  replace h := h.2 z4 ez4
  refine tq_s_aload_n (kk := 0) (by decide +kernel) rfl ?_
  refine tq_k_ic (n := 0) (v := (0 : Int32)) (by decide +kernel) kc_0 ?_
  refine fp_12_374_51 rfl (by decide +kernel) (fun z5 ez5 => ?_)
  replace h := h z5 ez5
  refine tq_s_aload_n (kk := 0) (by decide +kernel) rfl ?_
  refine tq_s_aload_n (kk := 0) (by decide +kernel) rfl ?_
  refine fg_12_350_51 rfl (by decide +kernel) ?_
  refine tq_callV (as := [.long (tq_fl z5 3306)]) (st := []) (d1 := 43) (x1 := 0) (x2 := x) (by decide +kernel) ln_12_382 mf_X12_search rfl sh_51 rfl (by decide) np_X12_search rfl (Nat.le_of_ble_eq_true rfl) (by decide) (Nat.zero_add _).symm (tq_M_mono (am_X12_search 40 h) ?_)
  refine tq_wv_e (fun z6 h => ?_)
  refine tq_s_aload_n (kk := 0) (by decide +kernel) rfl ?_
  refine fg_12_368_51 rfl (by decide +kernel) ?_
  exact tq_ret_i (st := []) (by decide +kernel) rfl h
def wc_X12_isMuch_15 (Q : tq_O → tq_S → Prop) (s0 : Int32) (z : tq_S) : Prop := wm_X12_isThrown s0 (1 : Int32) z (tq_wi fun r102 z101 => tq_nz r102 ∧ Q (.inl (some (.int r102))) z101)
theorem ac_X12_isMuch_15 {K : Nat × (Nat → Int32)} {x : Nat} {Q : tq_O → tq_S → Prop} {s0 : Int32} {z : tq_S} (h : wc_X12_isMuch_15 Q s0 z) : tq_T K 1 x mm_X12_isMuch 15 [.null] [.int s0, .ref 51] z Q := by
  unfold wc_X12_isMuch_15 at h
  refine tq_k_ic (n := 1) (v := (1 : Int32)) (by decide +kernel) kc_1 ?_
  refine tq_callV (as := [.int s0, .int (1 : Int32)]) (st := []) (d1 := 0) (x1 := 0) (x2 := x) (by decide +kernel) ln_12_152 mf_X12_isThrown rfl sh_51 rfl (by decide) np_X12_isThrown rfl (Nat.le_of_ble_eq_true rfl) (by decide) (Nat.zero_add _).symm (tq_M_mono (am_X12_isThrown h) ?_)
  refine tq_wi_e (fun r102 z101 h => ?_)
  exact tq_ret_z (st := []) (ty := .boolean) (by decide +kernel) (tq_nz_f h.1).1 rfl h.2
def wm_X12_isMuch  (z : tq_S) (Q : tq_O → tq_S → Prop) : Prop := wm_X12_many z (tq_wi fun r2 z1 => ((r2 ≤ (24 : Int32) → wc_X12_isMuch_15 Q (0 : Int32) z1) ∧ (¬ r2 ≤ (24 : Int32) → wc_X12_isMuch_15 Q (1 : Int32) z1)))
theorem am_X12_isMuch {K : Nat × (Nat → Int32)} {x : Nat} {z : tq_S} {Q : tq_O → tq_S → Prop}  (h : wm_X12_isMuch z Q) : tq_M K 1 x mm_X12_isMuch [.ref 51] z Q := by
  unfold wm_X12_isMuch at h
  refine tq_enter (L := [.ref 51]) mf_X12_isMuch.1 rfl rfl (Nat.le_of_ble_eq_true rfl) ?_
  refine tq_s_aload_n (kk := 0) (by decide +kernel) rfl ?_
  refine tq_s_aload_n (kk := 0) (by decide +kernel) rfl ?_
  refine tq_callV (as := []) (st := [.ref 51]) (d1 := 0) (x1 := 0) (x2 := x) (by decide +kernel) ln_12_160 mf_X12_many rfl sh_51 rfl (by decide) np_X12_many rfl (Nat.le_of_ble_eq_true rfl) (by decide) (Nat.zero_add _).symm (tq_M_mono (am_X12_many h) ?_)
  refine tq_wi_e (fun r2 z1 h => ?_)
  refine tq_k_bi (n := 24) (v := (24 : Int32)) (by decide +kernel) kb_24 ?_
  refine tq_icmp_le (off := 7) (tgt := 14) (by decide +kernel) (by decide +kernel) (fun hc => ?_) (fun hc => ?_)
  · replace h := h.1 hc
    refine tq_k_ic (n := 0) (v := (0 : Int32)) (by decide +kernel) kc_0 ?_
    exact tq_to (tq_ld1 tq_l0) (ac_X12_isMuch_15 h)
  · replace h := h.2 hc
    refine tq_k_ic (n := 1) (v := (1 : Int32)) (by decide +kernel) kc_1 ?_
    refine tq_s_goto (off := 4) (tgt := 15) (by decide +kernel) (by decide +kernel) ?_
    exact tq_to (tq_ld1 tq_l0) (ac_X12_isMuch_15 h)
def wm_X12_exact  (z : tq_S) (Q : tq_O → tq_S → Prop) : Prop := wm_X12_isMuch z (tq_wi fun r2 z1 => ((r2 = 0 → wm_X12_searched (-1 : Int32) (0 : Int32) z1 (tq_wi fun r4 z3 => Q (.inl (some (.int r4))) z3)) ∧ (¬ r2 = 0 → Q (.inl (some (.int (0 : Int32)))) z1)))
theorem am_X12_exact {K : Nat × (Nat → Int32)} {x : Nat} {z : tq_S} {Q : tq_O → tq_S → Prop}  (h : wm_X12_exact z Q) : tq_M K 45 x mm_X12_exact [.ref 51] z Q := by
  unfold wm_X12_exact at h
  refine tq_enter (L := [.ref 51]) mf_X12_exact.1 rfl rfl (Nat.le_of_ble_eq_true rfl) ?_
  refine tq_s_aload_n (kk := 0) (by decide +kernel) rfl ?_
  refine tq_callV (as := []) (st := []) (d1 := 1) (x1 := 0) (x2 := x) (by decide +kernel) ln_12_402 mf_X12_isMuch rfl sh_51 rfl (by decide) np_X12_isMuch rfl (Nat.le_of_ble_eq_true rfl) (by decide) (Nat.zero_add _).symm (tq_M_mono (am_X12_isMuch h) ?_)
  refine tq_wi_e (fun r2 z1 h => ?_)
  refine tq_if_eq (off := 7) (tgt := 11) (by decide +kernel) (by decide +kernel) (fun hc => ?_) (fun hc => ?_)
  · replace h := h.1 hc
    refine tq_s_aload_n (kk := 0) (by decide +kernel) rfl ?_
    refine tq_k_ic (n := -1) (v := (-1 : Int32)) (by decide +kernel) kc_m1 ?_
    refine tq_k_ic (n := 0) (v := (0 : Int32)) (by decide +kernel) kc_0 ?_
    refine tq_callV (as := [.int (-1 : Int32), .int (0 : Int32)]) (st := []) (d1 := 44) (x1 := 0) (x2 := x) (by decide +kernel) ln_12_405 mf_X12_searched rfl sh_51 rfl (by decide) np_X12_searched rfl (Nat.le_of_ble_eq_true rfl) (by decide) (Nat.zero_add _).symm (tq_M_mono (am_X12_searched h) ?_)
    refine tq_wi_e (fun r4 z3 h => ?_)
    exact tq_ret_i (st := []) (by decide +kernel) rfl h
  · replace h := h.2 hc
    refine tq_k_ic (n := 0) (v := (0 : Int32)) (by decide +kernel) kc_0 ?_
    refine tq_s_goto (off := 9) (tgt := 17) (by decide +kernel) (by decide +kernel) ?_
    exact tq_ret_i (st := []) (by decide +kernel) rfl h
def wc_X12_unlike_22 (Q : tq_O → tq_S → Prop) (s0 : Int32) (z : tq_S) : Prop := wm_X12_isThrown s0 (1 : Int32) z (tq_wi fun r102 z101 => ((r102 = 0 → wm_X12_searched (-1 : Int32) (1 : Int32) z101 (tq_wi fun r104 z103 => Q (.inl (some (.int r104))) z103)) ∧ (¬ r102 = 0 → Q (.inl (some (.int (0 : Int32)))) z101)))
theorem ac_X12_unlike_22 {K : Nat × (Nat → Int32)} {x : Nat} {Q : tq_O → tq_S → Prop} {s0 : Int32} {z : tq_S} (h : wc_X12_unlike_22 Q s0 z) : tq_T K 45 x mm_X12_unlike 22 [.ref 51] [.int s0, .ref 51] z Q := by
  unfold wc_X12_unlike_22 at h
  refine tq_k_ic (n := 1) (v := (1 : Int32)) (by decide +kernel) kc_1 ?_
  refine tq_callV (as := [.int s0, .int (1 : Int32)]) (st := []) (d1 := 0) (x1 := 0) (x2 := x) (by decide +kernel) ln_12_152 mf_X12_isThrown rfl sh_51 rfl (by decide) np_X12_isThrown rfl (Nat.le_of_ble_eq_true rfl) (by decide) (Nat.zero_add _).symm (tq_M_mono (am_X12_isThrown h) ?_)
  refine tq_wi_e (fun r102 z101 h => ?_)
  refine tq_if_eq (off := 7) (tgt := 33) (by decide +kernel) (by decide +kernel) (fun hc => ?_) (fun hc => ?_)
  · replace h := h.1 hc
    refine tq_s_aload_n (kk := 0) (by decide +kernel) rfl ?_
    refine tq_k_ic (n := -1) (v := (-1 : Int32)) (by decide +kernel) kc_m1 ?_
    refine tq_k_ic (n := 1) (v := (1 : Int32)) (by decide +kernel) kc_1 ?_
    refine tq_callV (as := [.int (-1 : Int32), .int (1 : Int32)]) (st := []) (d1 := 44) (x1 := 0) (x2 := x) (by decide +kernel) ln_12_405 mf_X12_searched rfl sh_51 rfl (by decide) np_X12_searched rfl (Nat.le_of_ble_eq_true rfl) (by decide) (Nat.zero_add _).symm (tq_M_mono (am_X12_searched h) ?_)
    refine tq_wi_e (fun r104 z103 h => ?_)
    exact tq_ret_i (st := []) (by decide +kernel) rfl h
  · replace h := h.2 hc
    refine tq_k_ic (n := 0) (v := (0 : Int32)) (by decide +kernel) kc_0 ?_
    refine tq_s_goto (off := 9) (tgt := 39) (by decide +kernel) (by decide +kernel) ?_
    exact tq_ret_i (st := []) (by decide +kernel) rfl h
def wc_X12_unlike_17 (Q : tq_O → tq_S → Prop)  (z : tq_S) : Prop := wc_X12_unlike_22 Q (1 : Int32) z
theorem ac_X12_unlike_17 {K : Nat × (Nat → Int32)} {x : Nat} {Q : tq_O → tq_S → Prop}  {z : tq_S} (h : wc_X12_unlike_17 Q z) : tq_T K 45 x mm_X12_unlike 17 [.ref 51] [.ref 51] z Q := by
  unfold wc_X12_unlike_17 at h
  refine tq_k_ic (n := 1) (v := (1 : Int32)) (by decide +kernel) kc_1 ?_
  refine tq_s_goto (off := 4) (tgt := 22) (by decide +kernel) (by decide +kernel) ?_
  exact ac_X12_unlike_22 h
def wm_X12_unlike  (z : tq_S) (Q : tq_O → tq_S → Prop) : Prop := wm_X12_many z (tq_wi fun r2 z1 => (((24 : Int32) < r2 → wc_X12_unlike_17 Q z1) ∧ (¬ (24 : Int32) < r2 → (((tq_fi z1 3267) = 0 → wc_X12_unlike_22 Q (0 : Int32) z1) ∧ (¬ (tq_fi z1 3267) = 0 → wc_X12_unlike_17 Q z1)))))
theorem am_X12_unlike {K : Nat × (Nat → Int32)} {x : Nat} {z : tq_S} {Q : tq_O → tq_S → Prop}  (h : wm_X12_unlike z Q) : tq_M K 45 x mm_X12_unlike [.ref 51] z Q := by
  unfold wm_X12_unlike at h
  refine tq_enter (L := [.ref 51]) mf_X12_unlike.1 rfl rfl (Nat.le_of_ble_eq_true rfl) ?_
  refine tq_s_aload_n (kk := 0) (by decide +kernel) rfl ?_
  refine tq_s_aload_n (kk := 0) (by decide +kernel) rfl ?_
  refine tq_callV (as := []) (st := [.ref 51]) (d1 := 0) (x1 := 0) (x2 := x) (by decide +kernel) ln_12_160 mf_X12_many rfl sh_51 rfl (by decide) np_X12_many rfl (Nat.le_of_ble_eq_true rfl) (by decide) (Nat.zero_add _).symm (tq_M_mono (am_X12_many h) ?_)
  refine tq_wi_e (fun r2 z1 h => ?_)
  refine tq_k_bi (n := 24) (v := (24 : Int32)) (by decide +kernel) kb_24 ?_
  refine tq_icmp_gt (off := 10) (tgt := 17) (by decide +kernel) (by decide +kernel) (fun hc => ?_) (fun hc => ?_)
  · replace h := h.1 hc
    exact ac_X12_unlike_17 h
  · replace h := h.2 hc
    refine tq_s_aload_n (kk := 0) (by decide +kernel) rfl ?_
    refine fg_12_142_51 rfl (by decide +kernel) ?_
    refine tq_if_eq (off := 7) (tgt := 21) (by decide +kernel) (by decide +kernel) (fun hc => ?_) (fun hc => ?_)
    · replace h := h.1 hc
      refine tq_k_ic (n := 0) (v := (0 : Int32)) (by decide +kernel) kc_0 ?_
      exact ac_X12_unlike_22 h
    · replace h := h.2 hc
      exact ac_X12_unlike_17 h
def wc_X12_kindAt_122 (B70 : Int32 → Int32 → tq_S → Prop) (Q : tq_O → tq_S → Prop) (a2 : Int32) (a3 : Int32) (a6 : Int32) (s0 : Int32) (z : tq_S) : Prop := ∀ v101 : Int32, v101 = a6 + (1 : Int32) → B70 s0 v101 z
theorem ac_X12_kindAt_122 {K : Nat × (Nat → Int32)} {x : Nat} {Q : tq_O → tq_S → Prop} {B70 : Int32 → Int32 → tq_S → Prop} {a2 : Int32} {a3 : Int32} {a6 : Int32} {s0 : Int32} {z : tq_S} (hB70 : ∀ (b5 : Int32) (b6 : Int32) (z : tq_S), B70 b5 b6 z → tq_T K 45 x mm_X12_kindAt 70 [.ref 51, .null, .int a2, .int a3, .null, .int b5, .int b6] [] z Q) (h : wc_X12_kindAt_122 B70 Q a2 a3 a6 s0 z) : tq_T K 45 x mm_X12_kindAt 122 [.ref 51, .null, .int a2, .int a3, .null, .null, .int a6] [.int s0] z Q := by
  unfold wc_X12_kindAt_122 at h
  refine tq_s_istore (i := 5) (L9 := [.ref 51, .null, .int a2, .int a3, .null, .int s0, .int a6]) (by decide +kernel) (by decide) rfl ?_
  refine tq_g_iinc (i := 6) (fun v101 => [.ref 51, .null, .int a2, .int a3, .null, .int s0, .int v101]) (by decide +kernel) rfl (1 : Int32) kc_1 (fun _ => rfl) (fun v101 ev101 => ?_)
  replace h := h v101 ev101
  refine tq_s_goto (off := -57) (tgt := 70) (by decide +kernel) (by decide +kernel) ?_
  exact hB70 _ _ _ h
def wb_X12_kindAt_70 (B70 : Int32 → Int32 → tq_S → Prop) (Q : tq_O → tq_S → Prop) (a2 : Int32) (a3 : Int32) (a5 : Int32) (a6 : Int32) (z : tq_S) : Prop := (((tq_fi z 3305) ≤ a6 → Q (.inl (some (.int a5))) z) ∧ (¬ (tq_fi z 3305) ≤ a6 → vp_in a6 64 ∧ vp_in (tq_ai z 75 (Int32.toNatClampNeg a6)) 4096 ∧ ((¬ (((Int64.toUInt64 (tq_al z 70 (Int32.toNatClampNeg (tq_ai z 75 (Int32.toNatClampNeg a6))))) >>> ((Int32.toInt64 (((8 : Int32) * a3) + a2)).toUInt64 &&& Int64.toUInt64 63)).toInt64 &&& (1 : Int64)) = (1 : Int64) → wc_X12_kindAt_122 B70 Q a2 a3 a6 a5 z) ∧ ((((Int64.toUInt64 (tq_al z 70 (Int32.toNatClampNeg (tq_ai z 75 (Int32.toNatClampNeg a6))))) >>> ((Int32.toInt64 (((8 : Int32) * a3) + a2)).toUInt64 &&& Int64.toUInt64 63)).toInt64 &&& (1 : Int64)) = (1 : Int64) → vp_in a6 64 ∧ vp_in (tq_ai z 75 (Int32.toNatClampNeg a6)) 4096 ∧ wc_X12_kindAt_122 B70 Q a2 a3 a6 (tq_ai z 71 (Int32.toNatClampNeg (tq_ai z 75 (Int32.toNatClampNeg a6)))) z))))
def wc_X12_kindAt_70 (Q : tq_O → tq_S → Prop) (a2 : Int32) (a3 : Int32) (a5 : Int32) (a6 : Int32) (z : tq_S) : Prop := tq_lp (σ := Int32 × Int32 × tq_S) (fun B s => wb_X12_kindAt_70 (fun b5 b6 z => B (b5, b6, z)) Q a2 a3 s.1 s.2.1 s.2.2) (a5, a6, z)
theorem ab_X12_kindAt_70 {K : Nat × (Nat → Int32)} {x : Nat} {Q : tq_O → tq_S → Prop} {B70 : Int32 → Int32 → tq_S → Prop} {a2 : Int32} {a3 : Int32} {a5 : Int32} {a6 : Int32} {z : tq_S} (hB70 : ∀ (b5 : Int32) (b6 : Int32) (z : tq_S), B70 b5 b6 z → tq_T K 45 x mm_X12_kindAt 70 [.ref 51, .null, .int a2, .int a3, .null, .int b5, .int b6] [] z Q) (h : wb_X12_kindAt_70 B70 Q a2 a3 a5 a6 z) : tq_T K 45 x mm_X12_kindAt 70 [.ref 51, .null, .int a2, .int a3, .null, .int a5, .int a6] [] z Q := by
  unfold wb_X12_kindAt_70 at h
  refine tq_s_iload (i := 6) (by decide +kernel) rfl ?_
  refine tq_s_aload_n (kk := 0) (by decide +kernel) rfl ?_
  refine fg_12_377_51 rfl (by decide +kernel) ?_
  refine tq_icmp_ge (off := 54) (tgt := 130) (by decide +kernel) (by decide +kernel) (fun hc => ?_) (fun hc => ?_)
  · replace h := h.1 hc
    refine tq_s_iload (i := 5) (by decide +kernel) rfl ?_
    exact tq_ret_i (st := []) (by decide +kernel) rfl h
  · replace h := h.2 hc
    refine tq_s_aload_n (kk := 0) (by decide +kernel) rfl ?_
    refine fg_12_77_51 rfl (by decide +kernel) ?_
    refine tq_s_aload_n (kk := 0) (by decide +kernel) rfl ?_
    refine fg_12_92_51 rfl (by decide +kernel) ?_
    refine tq_s_iload (i := 6) (by decide +kernel) rfl ?_
    refine tq_s_iald (by decide +kernel) sh_75 h.1 ?_
    replace h := h.2
    refine tq_s_lald (by decide +kernel) sh_70 h.1 ?_
    replace h := h.2
    refine tq_k_bi (n := 8) (v := (8 : Int32)) (by decide +kernel) kb_8 ?_
    refine tq_s_iload_n (kk := 3) (by decide +kernel) rfl ?_
    refine tq_s_imul (by decide +kernel) ?_
    refine tq_s_iload_n (kk := 2) (by decide +kernel) rfl ?_
    refine tq_s_iadd (by decide +kernel) ?_
    refine tq_s_lushr (by decide +kernel) ?_
    refine tq_k_lc (n := 1) (v := (1 : Int64)) (by decide +kernel) (by decide +kernel) ?_
    refine tq_s_land (by decide +kernel) ?_
    refine tq_k_lc (n := 1) (v := (1 : Int64)) (by decide +kernel) (by decide +kernel) ?_
    refine tq_lcmp_ne (off := 18) (tgt := 120) (by decide +kernel) (by decide +kernel) (by decide +kernel) (fun hc => ?_) (fun hc => ?_)
    · replace h := h.1 hc
      refine tq_s_iload (i := 5) (by decide +kernel) rfl ?_
      exact tq_to (tq_lk1 (tq_lk1 (tq_lk1 (tq_lk1 (tq_lk1 (tq_ld1 (tq_lk1 tq_l0))))))) (ac_X12_kindAt_122 hB70 h)
    · replace h := h.2 hc
      refine tq_s_aload_n (kk := 0) (by decide +kernel) rfl ?_
      refine fg_12_80_51 rfl (by decide +kernel) ?_
      refine tq_s_aload_n (kk := 0) (by decide +kernel) rfl ?_
      refine fg_12_92_51 rfl (by decide +kernel) ?_
      refine tq_s_iload (i := 6) (by decide +kernel) rfl ?_
      refine tq_s_iald (by decide +kernel) sh_75 h.1 ?_
      replace h := h.2
      refine tq_s_iald (by decide +kernel) sh_71 h.1 ?_
      replace h := h.2
      refine tq_s_goto (off := 5) (tgt := 122) (by decide +kernel) (by decide +kernel) ?_
      exact tq_to (tq_lk1 (tq_lk1 (tq_lk1 (tq_lk1 (tq_lk1 (tq_ld1 (tq_lk1 tq_l0))))))) (ac_X12_kindAt_122 hB70 h)
theorem ac_X12_kindAt_70 {K : Nat × (Nat → Int32)} {x : Nat} {Q : tq_O → tq_S → Prop} {a2 : Int32} {a3 : Int32} {a5 : Int32} {a6 : Int32} {z : tq_S} (h : wc_X12_kindAt_70 Q a2 a3 a5 a6 z) : tq_T K 45 x mm_X12_kindAt 70 [.ref 51, .null, .int a2, .int a3, .null, .int a5, .int a6] [] z Q :=
  tq_lp_T (σ := Int32 × Int32 × tq_S) (s := (a5, a6, z)) (G := fun s => tq_T K 45 x mm_X12_kindAt 70 [.ref 51, .null, .int a2, .int a3, .null, .int s.1, .int s.2.1] [] s.2.2 Q) (fun B hB s h => ab_X12_kindAt_70 (fun b5 b6 z h => hB (b5, b6, z) h) h) h
def wc_X12_kindAt_55 (Q : tq_O → tq_S → Prop) (a2 : Int32) (a3 : Int32) (s0 : Int32) (z : tq_S) : Prop := wm_X12_isThrown s0 (3 : Int32) z (tq_wi fun r102 z101 => ((r102 = 0 → wc_X12_kindAt_70 Q a2 a3 (0 : Int32) (0 : Int32) z101) ∧ (¬ r102 = 0 → Q (.inl (some (.int (0 : Int32)))) z101)))
theorem ac_X12_kindAt_55 {K : Nat × (Nat → Int32)} {x : Nat} {Q : tq_O → tq_S → Prop} {a2 : Int32} {a3 : Int32} {s0 : Int32} {z : tq_S} (h : wc_X12_kindAt_55 Q a2 a3 s0 z) : tq_T K 45 x mm_X12_kindAt 55 [.ref 51, .null, .int a2, .int a3, .null, .null, .null] [.int s0, .ref 51] z Q := by
  unfold wc_X12_kindAt_55 at h
  refine tq_k_ic (n := 3) (v := (3 : Int32)) (by decide +kernel) kc_3 ?_
  refine tq_callV (as := [.int s0, .int (3 : Int32)]) (st := []) (d1 := 0) (x1 := 0) (x2 := x) (by decide +kernel) ln_12_152 mf_X12_isThrown rfl sh_51 rfl (by decide) np_X12_isThrown rfl (Nat.le_of_ble_eq_true rfl) (by decide) (Nat.zero_add _).symm (tq_M_mono (am_X12_isThrown h) ?_)
  refine tq_wi_e (fun r102 z101 h => ?_)
  refine tq_if_eq (off := 5) (tgt := 64) (by decide +kernel) (by decide +kernel) (fun hc => ?_) (fun hc => ?_)
  · replace h := h.1 hc
    refine tq_k_ic (n := 0) (v := (0 : Int32)) (by decide +kernel) kc_0 ?_
    refine tq_s_istore (i := 5) (L9 := [.ref 51, .null, .int a2, .int a3, .null, .int (0 : Int32), .null]) (by decide +kernel) (by decide) rfl ?_
    refine tq_k_ic (n := 0) (v := (0 : Int32)) (by decide +kernel) kc_0 ?_
    refine tq_s_istore (i := 6) (L9 := [.ref 51, .null, .int a2, .int a3, .null, .int (0 : Int32), .int (0 : Int32)]) (by decide +kernel) (by decide) rfl ?_
    exact ac_X12_kindAt_70 h
  · replace h := h.2 hc
    refine tq_k_ic (n := 0) (v := (0 : Int32)) (by decide +kernel) kc_0 ?_
    exact tq_ret_i (st := []) (by decide +kernel) rfl h
def wc_X12_kindAt_28 (Q : tq_O → tq_S → Prop) (a2 : Int32) (a3 : Int32) (s0 : Int32) (z : tq_S) : Prop := wm_X12_isThrown s0 (2 : Int32) z (tq_wi fun r102 z101 => ((¬ r102 = 0 → Q (.inl (some (.int (0 : Int32)))) z101) ∧ (r102 = 0 → wm_X12_isCell a2 a3 z101 (tq_wi fun r104 z103 => ((¬ r104 = 0 → wc_X12_kindAt_55 Q a2 a3 (0 : Int32) z103) ∧ (r104 = 0 → wc_X12_kindAt_55 Q a2 a3 (1 : Int32) z103))))))
theorem ac_X12_kindAt_28 {K : Nat × (Nat → Int32)} {x : Nat} {Q : tq_O → tq_S → Prop} {a2 : Int32} {a3 : Int32} {s0 : Int32} {z : tq_S} (h : wc_X12_kindAt_28 Q a2 a3 s0 z) : tq_T K 45 x mm_X12_kindAt 28 [.ref 51, .null, .int a2, .int a3, .null, .null, .null] [.int s0] z Q := by
  unfold wc_X12_kindAt_28 at h
  refine tq_s_istore (i := 4) (L9 := [.ref 51, .null, .int a2, .int a3, .int s0, .null, .null]) (by decide +kernel) (by decide) rfl ?_
  refine tq_s_aload_n (kk := 0) (by decide +kernel) rfl ?_
  refine tq_s_iload (i := 4) (by decide +kernel) rfl ?_
  refine tq_k_ic (n := 2) (v := (2 : Int32)) (by decide +kernel) kc_2 ?_
  refine tq_callV (as := [.int s0, .int (2 : Int32)]) (st := []) (d1 := 0) (x1 := 0) (x2 := x) (by decide +kernel) ln_12_152 mf_X12_isThrown rfl sh_51 rfl (by decide) np_X12_isThrown rfl (Nat.le_of_ble_eq_true rfl) (by decide) (Nat.zero_add _).symm (tq_M_mono (am_X12_isThrown h) ?_)
  refine tq_wi_e (fun r102 z101 h => ?_)
  refine tq_if_ne (off := 25) (tgt := 62) (by decide +kernel) (by decide +kernel) (fun hc => ?_) (fun hc => ?_)
  · replace h := h.1 hc
    refine tq_k_ic (n := 0) (v := (0 : Int32)) (by decide +kernel) kc_0 ?_
    exact tq_ret_i (st := []) (by decide +kernel) rfl h
  · replace h := h.2 hc
    refine tq_s_aload_n (kk := 0) (by decide +kernel) rfl ?_
    refine tq_s_aload_n (kk := 0) (by decide +kernel) rfl ?_
    refine tq_s_iload_n (kk := 2) (by decide +kernel) rfl ?_
    refine tq_s_iload_n (kk := 3) (by decide +kernel) rfl ?_
    refine tq_callV (as := [.int a2, .int a3]) (st := [.ref 51]) (d1 := 1) (x1 := 0) (x2 := x) (by decide +kernel) ln_12_164 mf_X12_isCell rfl sh_51 rfl (by decide) np_X12_isCell rfl (Nat.le_of_ble_eq_true rfl) (by decide) (Nat.zero_add _).symm (tq_M_mono (am_X12_isCell h) ?_)
    refine tq_wi_e (fun r104 z103 h => ?_)
    refine tq_if_ne (off := 7) (tgt := 54) (by decide +kernel) (by decide +kernel) (fun hc => ?_) (fun hc => ?_)
    · replace h := h.1 hc
      refine tq_k_ic (n := 0) (v := (0 : Int32)) (by decide +kernel) kc_0 ?_
      exact tq_to (tq_lk1 (tq_lk1 (tq_lk1 (tq_lk1 (tq_ld1 (tq_lk1 (tq_lk1 tq_l0))))))) (ac_X12_kindAt_55 h)
    · replace h := h.2 hc
      refine tq_k_ic (n := 1) (v := (1 : Int32)) (by decide +kernel) kc_1 ?_
      refine tq_s_goto (off := 4) (tgt := 55) (by decide +kernel) (by decide +kernel) ?_
      exact tq_to (tq_lk1 (tq_lk1 (tq_lk1 (tq_lk1 (tq_ld1 (tq_lk1 (tq_lk1 tq_l0))))))) (ac_X12_kindAt_55 h)
def wc_X12_kindAt_23 (Q : tq_O → tq_S → Prop) (a2 : Int32) (a3 : Int32) (z : tq_S) : Prop := wc_X12_kindAt_28 Q a2 a3 (1 : Int32) z
theorem ac_X12_kindAt_23 {K : Nat × (Nat → Int32)} {x : Nat} {Q : tq_O → tq_S → Prop} {a2 : Int32} {a3 : Int32} {z : tq_S} (h : wc_X12_kindAt_23 Q a2 a3 z) : tq_T K 45 x mm_X12_kindAt 23 [.ref 51, .null, .int a2, .int a3, .null, .null, .null] [] z Q := by
  unfold wc_X12_kindAt_23 at h
  refine tq_k_ic (n := 1) (v := (1 : Int32)) (by decide +kernel) kc_1 ?_
  refine tq_s_goto (off := 4) (tgt := 28) (by decide +kernel) (by decide +kernel) ?_
  exact ac_X12_kindAt_28 h
def wm_X12_kindAt (a1 : Int32) (a2 : Int32) (a3 : Int32) (z : tq_S) (Q : tq_O → tq_S → Prop) : Prop := wm_X12_isMuch z (tq_wi fun r2 z1 => ((r2 = 0 → ((a1 < 0 → wc_X12_kindAt_23 Q a2 a3 z1) ∧ (¬ a1 < 0 → wm_X12_searched a1 (0 : Int32) z1 (tq_wi fun r4 z3 => ((a1 < r4 → wc_X12_kindAt_28 Q a2 a3 (0 : Int32) z3) ∧ (¬ a1 < r4 → wc_X12_kindAt_23 Q a2 a3 z3)))))) ∧ (¬ r2 = 0 → Q (.inl (some (.int (0 : Int32)))) z1)))
theorem am_X12_kindAt {K : Nat × (Nat → Int32)} {x : Nat} {z : tq_S} {Q : tq_O → tq_S → Prop} {a1 : Int32} {a2 : Int32} {a3 : Int32} (h : wm_X12_kindAt a1 a2 a3 z Q) : tq_M K 45 x mm_X12_kindAt [.ref 51, .int a1, .int a2, .int a3] z Q := by
  unfold wm_X12_kindAt at h
  refine tq_enter (L := [.ref 51, .int a1, .int a2, .int a3, .null, .null, .null]) mf_X12_kindAt.1 rfl rfl (Nat.le_of_ble_eq_true rfl) ?_
  refine tq_s_aload_n (kk := 0) (by decide +kernel) rfl ?_
  refine tq_callV (as := []) (st := []) (d1 := 1) (x1 := 0) (x2 := x) (by decide +kernel) ln_12_402 mf_X12_isMuch rfl sh_51 rfl (by decide) np_X12_isMuch rfl (Nat.le_of_ble_eq_true rfl) (by decide) (Nat.zero_add _).symm (tq_M_mono (am_X12_isMuch h) ?_)
  refine tq_wi_e (fun r2 z1 h => ?_)
  refine tq_if_eq (off := 5) (tgt := 9) (by decide +kernel) (by decide +kernel) (fun hc => ?_) (fun hc => ?_)
  · replace h := h.1 hc
    refine tq_s_iload_n (kk := 1) (by decide +kernel) rfl ?_
    refine tq_if_lt (off := 13) (tgt := 23) (by decide +kernel) (by decide +kernel) (fun hc => ?_) (fun hc => ?_)
    · replace h := h.1 hc
      exact tq_to (tq_lk1 (tq_ld1 (tq_lk1 (tq_lk1 (tq_lk1 (tq_lk1 (tq_lk1 tq_l0))))))) (ac_X12_kindAt_23 h)
    · replace h := h.2 hc
      refine tq_s_aload_n (kk := 0) (by decide +kernel) rfl ?_
      refine tq_s_iload_n (kk := 1) (by decide +kernel) rfl ?_
      refine tq_k_ic (n := 0) (v := (0 : Int32)) (by decide +kernel) kc_0 ?_
      refine tq_callV (as := [.int a1, .int (0 : Int32)]) (st := []) (d1 := 44) (x1 := 0) (x2 := x) (by decide +kernel) ln_12_405 mf_X12_searched rfl sh_51 rfl (by decide) np_X12_searched rfl (Nat.le_of_ble_eq_true rfl) (by decide) (Nat.zero_add _).symm (tq_M_mono (am_X12_searched h) ?_)
      refine tq_wi_e (fun r4 z3 h => ?_)
      refine tq_s_iload_n (kk := 1) (by decide +kernel) rfl ?_
      refine tq_icmp_gt (off := 7) (tgt := 27) (by decide +kernel) (by decide +kernel) (fun hc => ?_) (fun hc => ?_)
      · replace h := h.1 hc
        refine tq_k_ic (n := 0) (v := (0 : Int32)) (by decide +kernel) kc_0 ?_
        exact tq_to (tq_lk1 (tq_ld1 (tq_lk1 (tq_lk1 (tq_lk1 (tq_lk1 (tq_lk1 tq_l0))))))) (ac_X12_kindAt_28 h)
      · replace h := h.2 hc
        exact tq_to (tq_lk1 (tq_ld1 (tq_lk1 (tq_lk1 (tq_lk1 (tq_lk1 (tq_lk1 tq_l0))))))) (ac_X12_kindAt_23 h)
  · replace h := h.2 hc
    refine tq_k_ic (n := 0) (v := (0 : Int32)) (by decide +kernel) kc_0 ?_
    exact tq_ret_i (st := []) (by decide +kernel) rfl h
