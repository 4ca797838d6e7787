def wc_X12_stripRow_80 (R : Int32 → Int32 → Int32 → Int32 → Int64 → tq_S → (tq_O → tq_S → Prop) → Prop) (Q : tq_O → tq_S → Prop) (a1 : Int32) (a2 : Int32) (a3 : Int32) (a4 : Int32) (a5 : Int64) (z : tq_S) : Prop := R a1 (a2 + (1 : Int32)) a3 (a4 ||| ((1 : Int32) <<< (a2 &&& 31))) a5 z (tq_wv fun z101 => Q (.inl none) z101)
theorem ac_X12_stripRow_80 {K : Nat × (Nat → Int32)} {x : Nat} {Q : tq_O → tq_S → Prop} {n : Nat} {R : Int32 → Int32 → Int32 → Int32 → Int64 → tq_S → (tq_O → tq_S → Prop) → Prop} {a1 : Int32} {a2 : Int32} {a3 : Int32} {a4 : Int32} {a5 : Int64} {z : tq_S} (hR : ∀ (a1 : Int32) (a2 : Int32) (a3 : Int32) (a4 : Int32) (a5 : Int64) (z : tq_S) (Q : tq_O → tq_S → Prop), R a1 a2 a3 a4 a5 z Q → tq_M K (0 + n) 0 mm_X12_stripRow [.ref 51, .int a1, .int a2, .int a3, .int a4, .long a5] z Q) (h : wc_X12_stripRow_80 R Q a1 a2 a3 a4 a5 z) : tq_T K (0 + n + 1) x mm_X12_stripRow 80 [.ref 51, .int a1, .int a2, .int a3, .int a4, .long a5, .null] [] z Q := by
  unfold wc_X12_stripRow_80 at h
  refine tq_s_aload_n (kk := 0) (by decide +kernel) rfl ?_
  refine tq_s_iload_n (kk := 1) (by decide +kernel) rfl ?_
  refine tq_s_iload_n (kk := 2) (by decide +kernel) rfl ?_
  refine tq_k_ic (n := 1) (v := (1 : Int32)) (by decide +kernel) kc_1 ?_
  refine tq_s_iadd (by decide +kernel) ?_
  refine tq_s_iload_n (kk := 3) (by decide +kernel) rfl ?_
  refine tq_s_iload (i := 4) (by decide +kernel) rfl ?_
  refine tq_k_ic (n := 1) (v := (1 : Int32)) (by decide +kernel) kc_1 ?_
  refine tq_s_iload_n (kk := 2) (by decide +kernel) rfl ?_
  refine tq_s_ishl (by decide +kernel) ?_
  refine tq_s_ior (by decide +kernel) ?_
  refine tq_s_lload (i := 5) (by decide +kernel) rfl ?_
  refine tq_callV (as := [.int a1, .int (a2 + (1 : Int32)), .int a3, .int (a4 ||| ((1 : Int32) <<< (a2 &&& 31))), .long a5]) (st := []) (d1 := (0 + n)) (x1 := 0) (x2 := x) (by decide +kernel) ln_12_409 mf_X12_stripRow rfl sh_51 rfl (by decide) np_X12_stripRow rfl (Nat.le_of_ble_eq_true rfl) (by omega) (Nat.zero_add _).symm (tq_M_mono (hR _ _ _ _ _ _ _ h) ?_)
  refine tq_wv_e (fun z101 h => ?_)
  exact tq_ret_v (st := []) (by decide +kernel) rfl h
def we_X12_stripRow (R : Int32 → Int32 → Int32 → Int32 → Int64 → tq_S → (tq_O → tq_S → Prop) → Prop) (a1 : Int32) (a2 : Int32) (a3 : Int32) (a4 : Int32) (a5 : Int64) (z : tq_S) (Q : tq_O → tq_S → Prop) : Prop := ((¬ a2 = a1 → ((¬ ((a3 >>> (a2 &&& 31)) &&& (1 : Int32)) = (1 : Int32) → ((a1 ≤ (a2 + (1 : Int32)) → wc_X12_stripRow_80 R Q a1 a2 a3 a4 a5 z) ∧ (¬ a1 ≤ (a2 + (1 : Int32)) → ((¬ ((a3 >>> ((a2 + (1 : Int32)) &&& 31)) &&& (1 : Int32)) = 0 → wc_X12_stripRow_80 R Q a1 a2 a3 a4 a5 z) ∧ (((a3 >>> ((a2 + (1 : Int32)) &&& 31)) &&& (1 : Int32)) = 0 → R a1 (a2 + (2 : Int32)) a3 a4 a5 z (tq_wv fun z1 => wc_X12_stripRow_80 R Q a1 a2 a3 a4 a5 z1)))))) ∧ (((a3 >>> (a2 &&& 31)) &&& (1 : Int32)) = (1 : Int32) → R a1 (a2 + (1 : Int32)) a3 a4 a5 z (tq_wv fun z2 => Q (.inl none) z2)))) ∧ (a2 = a1 → vp_in a4 256 ∧ vp_in a4 256 ∧ ∀ z3 : tq_S, z3 = tq_sal z 55 (vp_updL (tq_al z 55) (Int32.toNatClampNeg a4) (((tq_al z 55 (Int32.toNatClampNeg a4)) + a5) - ((tq_al z 55 (Int32.toNatClampNeg a4)) + a5) / (2147483647 : Int64) * (2147483647 : Int64))) → Q (.inl none) z3))
def wm_X12_stripRow : Nat → Int32 → Int32 → Int32 → Int32 → Int64 → tq_S → (tq_O → tq_S → Prop) → Prop
  | 0, _, _, _, _, _, _, _ => False
  | n + 1, a1, a2, a3, a4, a5, z, Q => we_X12_stripRow (wm_X12_stripRow n) a1 a2 a3 a4 a5 z Q
theorem ae_X12_stripRow {K : Nat × (Nat → Int32)} {x : Nat} {n : Nat} {R : Int32 → Int32 → Int32 → Int32 → Int64 → tq_S → (tq_O → tq_S → Prop) → Prop} {a1 : Int32} {a2 : Int32} {a3 : Int32} {a4 : Int32} {a5 : Int64} {z : tq_S} {Q : tq_O → tq_S → Prop} (hR : ∀ (a1 : Int32) (a2 : Int32) (a3 : Int32) (a4 : Int32) (a5 : Int64) (z : tq_S) (Q : tq_O → tq_S → Prop), R a1 a2 a3 a4 a5 z Q → tq_M K (0 + n) 0 mm_X12_stripRow [.ref 51, .int a1, .int a2, .int a3, .int a4, .long a5] z Q) (h : we_X12_stripRow R a1 a2 a3 a4 a5 z Q) : tq_M K (0 + n + 1) x mm_X12_stripRow [.ref 51, .int a1, .int a2, .int a3, .int a4, .long a5] z Q := by
  unfold we_X12_stripRow at h
  refine tq_enter (L := [.ref 51, .int a1, .int a2, .int a3, .int a4, .long a5, .null]) mf_X12_stripRow.1 rfl rfl (Nat.le_of_ble_eq_true rfl) ?_
  refine tq_s_iload_n (kk := 2) (by decide +kernel) rfl ?_
  refine tq_s_iload_n (kk := 1) (by decide +kernel) rfl ?_
  refine tq_icmp_ne (off := 25) (tgt := 27) (by decide +kernel) (by decide +kernel) (fun hc => ?_) (fun hc => ?_)
  · replace h := h.1 hc
    refine tq_s_iload_n (kk := 3) (by decide +kernel) rfl ?_
    refine tq_s_iload_n (kk := 2) (by decide +kernel) rfl ?_
    refine tq_s_ishr (by decide +kernel) ?_
    refine tq_k_ic (n := 1) (v := (1 : Int32)) (by decide +kernel) kc_1 ?_
    refine tq_s_iand (by decide +kernel) ?_
    refine tq_k_ic (n := 1) (v := (1 : Int32)) (by decide +kernel) kc_1 ?_
    refine tq_icmp_ne (off := 17) (tgt := 50) (by decide +kernel) (by decide +kernel) (fun hc => ?_) (fun hc => ?_)
    · replace h := h.1 hc
      refine tq_s_iload_n (kk := 2) (by decide +kernel) rfl ?_
      refine tq_k_ic (n := 1) (v := (1 : Int32)) (by decide +kernel) kc_1 ?_
      refine tq_s_iadd (by decide +kernel) ?_
      refine tq_s_iload_n (kk := 1) (by decide +kernel) rfl ?_
      refine tq_icmp_ge (off := 26) (tgt := 80) (by decide +kernel) (by decide +kernel) (fun hc => ?_) (fun hc => ?_)
      · replace h := h.1 hc
        exact ac_X12_stripRow_80 hR h
      · replace h := h.2 hc
        refine tq_s_iload_n (kk := 3) (by decide +kernel) rfl ?_
        refine tq_s_iload_n (kk := 2) (by decide +kernel) rfl ?_
        refine tq_k_ic (n := 1) (v := (1 : Int32)) (by decide +kernel) kc_1 ?_
        refine tq_s_iadd (by decide +kernel) ?_
        refine tq_s_ishr (by decide +kernel) ?_
        refine tq_k_ic (n := 1) (v := (1 : Int32)) (by decide +kernel) kc_1 ?_
        refine tq_s_iand (by decide +kernel) ?_
        refine tq_if_ne (off := 16) (tgt := 80) (by decide +kernel) (by decide +kernel) (fun hc => ?_) (fun hc => ?_)
        · replace h := h.1 hc
          exact ac_X12_stripRow_80 hR h
        · replace h := h.2 hc
          refine tq_s_aload_n (kk := 0) (by decide +kernel) rfl ?_
          refine tq_s_iload_n (kk := 1) (by decide +kernel) rfl ?_
          refine tq_s_iload_n (kk := 2) (by decide +kernel) rfl ?_
          refine tq_k_ic (n := 2) (v := (2 : Int32)) (by decide +kernel) kc_2 ?_
          refine tq_s_iadd (by decide +kernel) ?_
          refine tq_s_iload_n (kk := 3) (by decide +kernel) rfl ?_
          refine tq_s_iload (i := 4) (by decide +kernel) rfl ?_
          refine tq_s_lload (i := 5) (by decide +kernel) rfl ?_
          refine tq_callV (as := [.int a1, .int (a2 + (2 : Int32)), .int a3, .int a4, .long a5]) (st := []) (d1 := (0 + n)) (x1 := 0) (x2 := x) (by decide +kernel) ln_12_409 mf_X12_stripRow rfl sh_51 rfl (by decide) np_X12_stripRow rfl (Nat.le_of_ble_eq_true rfl) (by omega) (Nat.zero_add _).symm (tq_M_mono (hR _ _ _ _ _ _ _ h) ?_)
          refine tq_wv_e (fun z1 h => ?_)
          exact ac_X12_stripRow_80 hR h
    · replace h := h.2 hc
      refine tq_s_aload_n (kk := 0) (by decide +kernel) rfl ?_
      refine tq_s_iload_n (kk := 1) (by decide +kernel) rfl ?_
      refine tq_s_iload_n (kk := 2) (by decide +kernel) rfl ?_
      refine tq_k_ic (n := 1) (v := (1 : Int32)) (by decide +kernel) kc_1 ?_
      refine tq_s_iadd (by decide +kernel) ?_
      refine tq_s_iload_n (kk := 3) (by decide +kernel) rfl ?_
      refine tq_s_iload (i := 4) (by decide +kernel) rfl ?_
      refine tq_s_lload (i := 5) (by decide +kernel) rfl ?_
      refine tq_callV (as := [.int a1, .int (a2 + (1 : Int32)), .int a3, .int a4, .long a5]) (st := []) (d1 := (0 + n)) (x1 := 0) (x2 := x) (by decide +kernel) ln_12_409 mf_X12_stripRow rfl sh_51 rfl (by decide) np_X12_stripRow rfl (Nat.le_of_ble_eq_true rfl) (by omega) (Nat.zero_add _).symm (tq_M_mono (hR _ _ _ _ _ _ _ h) ?_)
      refine tq_wv_e (fun z2 h => ?_)
      exact tq_ret_v (st := []) (by decide +kernel) rfl h
  · replace h := h.2 hc
    refine tq_s_aload_n (kk := 0) (by decide +kernel) rfl ?_
    refine fg_12_27_51 rfl (by decide +kernel) ?_
    refine tq_s_iload (i := 4) (by decide +kernel) rfl ?_
    refine tq_s_aload_n (kk := 0) (by decide +kernel) rfl ?_
    refine fg_12_27_51 rfl (by decide +kernel) ?_
    refine tq_s_iload (i := 4) (by decide +kernel) rfl ?_
    refine tq_s_lald (by decide +kernel) sh_55 h.1 ?_
    replace h := h.2
    refine tq_s_lload (i := 5) (by decide +kernel) rfl ?_
    refine tq_s_ladd (by decide +kernel) ?_
    refine tq_s_ldc2 (i := 412) (v := (2147483647 : Int64)) (by decide +kernel) (by decide +kernel) ?_
    refine tq_s_lrem (by decide +kernel) (by decide +kernel) ?_
    refine tq_g_last (by decide +kernel) sh_55 h.1 (fun z3 ez3 => ?_)
    replace h := h.2 z3 ez3
    exact tq_ret_v (st := []) (by decide +kernel) rfl h
theorem am_X12_stripRow {K : Nat × (Nat → Int32)} : ∀ (n : Nat) {x : Nat} {a1 : Int32} {a2 : Int32} {a3 : Int32} {a4 : Int32} {a5 : Int64} {z : tq_S} {Q : tq_O → tq_S → Prop} (h : wm_X12_stripRow n a1 a2 a3 a4 a5 z Q), tq_M K (0 + n) x mm_X12_stripRow [.ref 51, .int a1, .int a2, .int a3, .int a4, .long a5] z Q
  | 0, _, _, _, _, _, _, _, _, h => False.elim h
  | n + 1, _, _, _, _, _, _, _, _, h => ae_X12_stripRow (n := n) (fun _ _ _ _ _ _ _ h => am_X12_stripRow n h) h
def wc_X12_tellTerms_22 (B2 : Int32 → tq_S → Prop) (Q : tq_O → tq_S → Prop) (a1 : Int32) (a2 : Int32) (s0 : Int64) (s1 : Int32) (z : tq_S) : Prop := vp_in s1 256 ∧ ∀ z101 : tq_S, z101 = tq_sal z 54 (vp_updL (tq_al z 54) (Int32.toNatClampNeg s1) s0) → ∀ v102 : Int32, v102 = a2 + (1 : Int32) → B2 v102 z101
theorem ac_X12_tellTerms_22 {K : Nat × (Nat → Int32)} {x : Nat} {Q : tq_O → tq_S → Prop} {B2 : Int32 → tq_S → Prop} {a1 : Int32} {a2 : Int32} {s0 : Int64} {s1 : Int32} {z : tq_S} (hB2 : ∀ (b2 : Int32) (z : tq_S), B2 b2 z → tq_T K 41 x mm_X12_tellTerms 2 [.ref 51, .int a1, .int b2, .null] [] z Q) (h : wc_X12_tellTerms_22 B2 Q a1 a2 s0 s1 z) : tq_T K 41 x mm_X12_tellTerms 22 [.ref 51, .int a1, .int a2, .null] [.long s0, .int s1, .ref 54] z Q := by
  unfold wc_X12_tellTerms_22 at h
  refine tq_g_last (by decide +kernel) sh_54 h.1 (fun z101 ez101 => ?_)
  replace h := h.2 z101 ez101
  refine tq_g_iinc (i := 2) (fun v102 => [.ref 51, .int a1, .int v102, .null]) (by decide +kernel) rfl (1 : Int32) kc_1 (fun _ => rfl) (fun v102 ev102 => ?_)
  replace h := h v102 ev102
  refine tq_s_goto (off := -24) (tgt := 2) (by decide +kernel) (by decide +kernel) ?_
  exact hB2 _ _ h
def wc_X12_tellTerms_104 (B31 : Int32 → tq_S → Prop) (B72 : Int32 → tq_S → Prop) (Q : tq_O → tq_S → Prop) (a1 : Int32) (a2 : Int32) (a3 : Int32) (z : tq_S) : Prop := ∀ v101 : Int32, v101 = a3 + (1 : Int32) → B72 v101 z
theorem ac_X12_tellTerms_104 {K : Nat × (Nat → Int32)} {x : Nat} {Q : tq_O → tq_S → Prop} {B31 : Int32 → tq_S → Prop} {B72 : Int32 → tq_S → Prop} {a1 : Int32} {a2 : Int32} {a3 : Int32} {z : tq_S} (hB31 : ∀ (b2 : Int32) (z : tq_S), B31 b2 z → tq_T K 41 x mm_X12_tellTerms 31 [.ref 51, .int a1, .int b2, .null] [] z Q) (hB72 : ∀ (b3 : Int32) (z : tq_S), B72 b3 z → tq_T K 41 x mm_X12_tellTerms 72 [.ref 51, .int a1, .int a2, .int b3] [] z Q) (h : wc_X12_tellTerms_104 B31 B72 Q a1 a2 a3 z) : tq_T K 41 x mm_X12_tellTerms 104 [.ref 51, .int a1, .int a2, .int a3] [] z Q := by
  unfold wc_X12_tellTerms_104 at h
  refine tq_g_iinc (i := 3) (fun v101 => [.ref 51, .int a1, .int a2, .int v101]) (by decide +kernel) rfl (1 : Int32) kc_1 (fun _ => rfl) (fun v101 ev101 => ?_)
  replace h := h v101 ev101
  refine tq_s_goto (off := -35) (tgt := 72) (by decide +kernel) (by decide +kernel) ?_
  exact hB72 _ _ h
def wc_X12_tellTerms_136 (B31 : Int32 → tq_S → Prop) (Q : tq_O → tq_S → Prop) (a1 : Int32) (a2 : Int32) (z : tq_S) : Prop := ∀ v101 : Int32, v101 = a2 + (1 : Int32) → B31 v101 z
theorem ac_X12_tellTerms_136 {K : Nat × (Nat → Int32)} {x : Nat} {Q : tq_O → tq_S → Prop} {B31 : Int32 → tq_S → Prop} {a1 : Int32} {a2 : Int32} {z : tq_S} (hB31 : ∀ (b2 : Int32) (z : tq_S), B31 b2 z → tq_T K 41 x mm_X12_tellTerms 31 [.ref 51, .int a1, .int b2, .null] [] z Q) (h : wc_X12_tellTerms_136 B31 Q a1 a2 z) : tq_T K 41 x mm_X12_tellTerms 136 [.ref 51, .int a1, .int a2, .null] [] z Q := by
  unfold wc_X12_tellTerms_136 at h
  refine tq_g_iinc (i := 2) (fun v101 => [.ref 51, .int a1, .int v101, .null]) (by decide +kernel) rfl (1 : Int32) kc_1 (fun _ => rfl) (fun v101 ev101 => ?_)
  replace h := h v101 ev101
  refine tq_s_goto (off := -108) (tgt := 31) (by decide +kernel) (by decide +kernel) ?_
  exact hB31 _ _ h
def wb_X12_tellTerms_112 (B31 : Int32 → tq_S → Prop) (B112 : Int32 → tq_S → Prop) (Q : tq_O → tq_S → Prop) (a1 : Int32) (a2 : Int32) (a3 : Int32) (z : tq_S) : Prop := (((64 : Int32) ≤ a3 → wc_X12_tellTerms_136 B31 Q a1 a2 z) ∧ (¬ (64 : Int32) ≤ a3 → vp_in a3 256 ∧ vp_in a3 256 ∧ ∀ z101 : tq_S, z101 = tq_sal z 54 (vp_updL (tq_al z 54) (Int32.toNatClampNeg a3) (tq_al z 55 (Int32.toNatClampNeg a3))) → ∀ v102 : Int32, v102 = a3 + (1 : Int32) → B112 v102 z101))
def wc_X12_tellTerms_112 (B31 : Int32 → tq_S → Prop) (Q : tq_O → tq_S → Prop) (a1 : Int32) (a2 : Int32) (a3 : Int32) (z : tq_S) : Prop := tq_lp (σ := Int32 × tq_S) (fun B s => wb_X12_tellTerms_112 B31 (fun b3 z => B (b3, z)) Q a1 a2 s.1 s.2) (a3, z)
theorem ab_X12_tellTerms_112 {K : Nat × (Nat → Int32)} {x : Nat} {Q : tq_O → tq_S → Prop} {B31 : Int32 → tq_S → Prop} {B112 : Int32 → tq_S → Prop} {a1 : Int32} {a2 : Int32} {a3 : Int32} {z : tq_S} (hB31 : ∀ (b2 : Int32) (z : tq_S), B31 b2 z → tq_T K 41 x mm_X12_tellTerms 31 [.ref 51, .int a1, .int b2, .null] [] z Q) (hB112 : ∀ (b3 : Int32) (z : tq_S), B112 b3 z → tq_T K 41 x mm_X12_tellTerms 112 [.ref 51, .int a1, .int a2, .int b3] [] z Q) (h : wb_X12_tellTerms_112 B31 B112 Q a1 a2 a3 z) : tq_T K 41 x mm_X12_tellTerms 112 [.ref 51, .int a1, .int a2, .int a3] [] z Q := by
  unfold wb_X12_tellTerms_112 at h
  refine tq_s_iload_n (kk := 3) (by decide +kernel) rfl ?_
  refine tq_k_bi (n := 64) (v := (64 : Int32)) (by decide +kernel) kb_64 ?_
  refine tq_icmp_ge (off := 21) (tgt := 136) (by decide +kernel) (by decide +kernel) (fun hc => ?_) (fun hc => ?_)
  · replace h := h.1 hc
    exact tq_to (tq_lk1 (tq_lk1 (tq_lk1 (tq_ld1 tq_l0)))) (ac_X12_tellTerms_136 hB31 h)
  · replace h := h.2 hc
    refine tq_s_aload_n (kk := 0) (by decide +kernel) rfl ?_
    refine fg_12_23_51 rfl (by decide +kernel) ?_
    refine tq_s_iload_n (kk := 3) (by decide +kernel) rfl ?_
    refine tq_s_aload_n (kk := 0) (by decide +kernel) rfl ?_
    refine fg_12_27_51 rfl (by decide +kernel) ?_
    refine tq_s_iload_n (kk := 3) (by decide +kernel) rfl ?_
    refine tq_s_lald (by decide +kernel) sh_55 h.1 ?_
    replace h := h.2
    refine tq_g_last (by decide +kernel) sh_54 h.1 (fun z101 ez101 => ?_)
    replace h := h.2 z101 ez101
    refine tq_g_iinc (i := 3) (fun v102 => [.ref 51, .int a1, .int a2, .int v102]) (by decide +kernel) rfl (1 : Int32) kc_1 (fun _ => rfl) (fun v102 ev102 => ?_)
    replace h := h v102 ev102
    refine tq_s_goto (off := -21) (tgt := 112) (by decide +kernel) (by decide +kernel) ?_
    exact hB112 _ _ h
theorem ac_X12_tellTerms_112 {K : Nat × (Nat → Int32)} {x : Nat} {Q : tq_O → tq_S → Prop} {B31 : Int32 → tq_S → Prop} {a1 : Int32} {a2 : Int32} {a3 : Int32} {z : tq_S} (hB31 : ∀ (b2 : Int32) (z : tq_S), B31 b2 z → tq_T K 41 x mm_X12_tellTerms 31 [.ref 51, .int a1, .int b2, .null] [] z Q) (h : wc_X12_tellTerms_112 B31 Q a1 a2 a3 z) : tq_T K 41 x mm_X12_tellTerms 112 [.ref 51, .int a1, .int a2, .int a3] [] z Q :=
  tq_lp_T (σ := Int32 × tq_S) (s := (a3, z)) (G := fun s => tq_T K 41 x mm_X12_tellTerms 112 [.ref 51, .int a1, .int a2, .int s.1] [] s.2 Q) (fun B hB s h => ab_X12_tellTerms_112 hB31 (fun b3 z h => hB (b3, z) h) h) h
def wc_X12_tellTerms_110 (B31 : Int32 → tq_S → Prop) (Q : tq_O → tq_S → Prop) (a1 : Int32) (a2 : Int32) (z : tq_S) : Prop := wc_X12_tellTerms_112 B31 Q a1 a2 (0 : Int32) z
theorem ac_X12_tellTerms_110 {K : Nat × (Nat → Int32)} {x : Nat} {Q : tq_O → tq_S → Prop} {B31 : Int32 → tq_S → Prop} {a1 : Int32} {a2 : Int32} {z : tq_S} (hB31 : ∀ (b2 : Int32) (z : tq_S), B31 b2 z → tq_T K 41 x mm_X12_tellTerms 31 [.ref 51, .int a1, .int b2, .null] [] z Q) (h : wc_X12_tellTerms_110 B31 Q a1 a2 z) : tq_T K 41 x mm_X12_tellTerms 110 [.ref 51, .int a1, .int a2, .null] [] z Q := by
  unfold wc_X12_tellTerms_110 at h
  refine tq_k_ic (n := 0) (v := (0 : Int32)) (by decide +kernel) kc_0 ?_
  refine tq_s_istore_n (kk := 3) (L9 := [.ref 51, .int a1, .int a2, .int (0 : Int32)]) (by decide +kernel) (by decide) rfl ?_
  exact ac_X12_tellTerms_112 hB31 h
def wb_X12_tellTerms_72 (B31 : Int32 → tq_S → Prop) (B72 : Int32 → tq_S → Prop) (Q : tq_O → tq_S → Prop) (a1 : Int32) (a2 : Int32) (a3 : Int32) (z : tq_S) : Prop := ((((1 : Int32) <<< (a1 &&& 31)) ≤ a3 → wc_X12_tellTerms_110 B31 Q a1 a2 z) ∧ (¬ ((1 : Int32) <<< (a1 &&& 31)) ≤ a3 → vp_in a3 256 ∧ (((tq_al z 54 (Int32.toNatClampNeg a3)) ≤ (0 : Int64) → wc_X12_tellTerms_104 B31 B72 Q a1 a2 a3 z) ∧ (¬ (tq_al z 54 (Int32.toNatClampNeg a3)) ≤ (0 : Int64) → vp_in a3 256 ∧ wm_X12_stripRow 40 a1 (0 : Int32) a3 (0 : Int32) (tq_al z 54 (Int32.toNatClampNeg a3)) z (tq_wv fun z101 => wc_X12_tellTerms_104 B31 B72 Q a1 a2 a3 z101)))))
def wc_X12_tellTerms_72 (B31 : Int32 → tq_S → Prop) (Q : tq_O → tq_S → Prop) (a1 : Int32) (a2 : Int32) (a3 : Int32) (z : tq_S) : Prop := tq_lp (σ := Int32 × tq_S) (fun B s => wb_X12_tellTerms_72 B31 (fun b3 z => B (b3, z)) Q a1 a2 s.1 s.2) (a3, z)
theorem ab_X12_tellTerms_72 {K : Nat × (Nat → Int32)} {x : Nat} {Q : tq_O → tq_S → Prop} {B31 : Int32 → tq_S → Prop} {B72 : Int32 → tq_S → Prop} {a1 : Int32} {a2 : Int32} {a3 : Int32} {z : tq_S} (hB31 : ∀ (b2 : Int32) (z : tq_S), B31 b2 z → tq_T K 41 x mm_X12_tellTerms 31 [.ref 51, .int a1, .int b2, .null] [] z Q) (hB72 : ∀ (b3 : Int32) (z : tq_S), B72 b3 z → tq_T K 41 x mm_X12_tellTerms 72 [.ref 51, .int a1, .int a2, .int b3] [] z Q) (h : wb_X12_tellTerms_72 B31 B72 Q a1 a2 a3 z) : tq_T K 41 x mm_X12_tellTerms 72 [.ref 51, .int a1, .int a2, .int a3] [] z Q := by
  unfold wb_X12_tellTerms_72 at h
  refine tq_s_iload_n (kk := 3) (by decide +kernel) rfl ?_
  refine tq_k_ic (n := 1) (v := (1 : Int32)) (by decide +kernel) kc_1 ?_
  refine tq_s_iload_n (kk := 1) (by decide +kernel) rfl ?_
  refine tq_s_ishl (by decide +kernel) ?_
  refine tq_icmp_ge (off := 34) (tgt := 110) (by decide +kernel) (by decide +kernel) (fun hc => ?_) (fun hc => ?_)
  · replace h := h.1 hc
    exact tq_to (tq_lk1 (tq_lk1 (tq_lk1 (tq_ld1 tq_l0)))) (ac_X12_tellTerms_110 hB31 h)
  · replace h := h.2 hc
    refine tq_s_aload_n (kk := 0) (by decide +kernel) rfl ?_
    refine fg_12_23_51 rfl (by decide +kernel) ?_
    refine tq_s_iload_n (kk := 3) (by decide +kernel) rfl ?_
    refine tq_s_lald (by decide +kernel) sh_54 h.1 ?_
    replace h := h.2
    refine tq_k_lc (n := 0) (v := (0 : Int64)) (by decide +kernel) (by decide +kernel) ?_
    refine tq_lcmp_le (off := 17) (tgt := 104) (by decide +kernel) (by decide +kernel) (by decide +kernel) (fun hc => ?_) (fun hc => ?_)
    · replace h := h.1 hc
      exact ac_X12_tellTerms_104 hB31 hB72 h
    · replace h := h.2 hc
      refine tq_s_aload_n (kk := 0) (by decide +kernel) rfl ?_
      refine tq_s_iload_n (kk := 1) (by decide +kernel) rfl ?_
      refine tq_k_ic (n := 0) (v := (0 : Int32)) (by decide +kernel) kc_0 ?_
      refine tq_s_iload_n (kk := 3) (by decide +kernel) rfl ?_
      refine tq_k_ic (n := 0) (v := (0 : Int32)) (by decide +kernel) kc_0 ?_
      refine tq_s_aload_n (kk := 0) (by decide +kernel) rfl ?_
      refine fg_12_23_51 rfl (by decide +kernel) ?_
      refine tq_s_iload_n (kk := 3) (by decide +kernel) rfl ?_
      refine tq_s_lald (by decide +kernel) sh_54 h.1 ?_
      replace h := h.2
      refine tq_callV (as := [.int a1, .int (0 : Int32), .int a3, .int (0 : Int32), .long (tq_al z 54 (Int32.toNatClampNeg a3))]) (st := []) (d1 := 40) (x1 := 0) (x2 := x) (by decide +kernel) ln_12_409 mf_X12_stripRow rfl sh_51 rfl (by decide) np_X12_stripRow rfl (Nat.le_of_ble_eq_true rfl) (by decide) (Nat.zero_add _).symm (tq_M_mono (am_X12_stripRow 40 h) ?_)
      refine tq_wv_e (fun z101 h => ?_)
      exact ac_X12_tellTerms_104 hB31 hB72 h
theorem ac_X12_tellTerms_72 {K : Nat × (Nat → Int32)} {x : Nat} {Q : tq_O → tq_S → Prop} {B31 : Int32 → tq_S → Prop} {a1 : Int32} {a2 : Int32} {a3 : Int32} {z : tq_S} (hB31 : ∀ (b2 : Int32) (z : tq_S), B31 b2 z → tq_T K 41 x mm_X12_tellTerms 31 [.ref 51, .int a1, .int b2, .null] [] z Q) (h : wc_X12_tellTerms_72 B31 Q a1 a2 a3 z) : tq_T K 41 x mm_X12_tellTerms 72 [.ref 51, .int a1, .int a2, .int a3] [] z Q :=
  tq_lp_T (σ := Int32 × tq_S) (s := (a3, z)) (G := fun s => tq_T K 41 x mm_X12_tellTerms 72 [.ref 51, .int a1, .int a2, .int s.1] [] s.2 Q) (fun B hB s h => ab_X12_tellTerms_72 hB31 (fun b3 z h => hB (b3, z) h) h) h
def wc_X12_tellTerms_70 (B31 : Int32 → tq_S → Prop) (Q : tq_O → tq_S → Prop) (a1 : Int32) (a2 : Int32) (z : tq_S) : Prop := wc_X12_tellTerms_72 B31 Q a1 a2 (0 : Int32) z
theorem ac_X12_tellTerms_70 {K : Nat × (Nat → Int32)} {x : Nat} {Q : tq_O → tq_S → Prop} {B31 : Int32 → tq_S → Prop} {a1 : Int32} {a2 : Int32} {z : tq_S} (hB31 : ∀ (b2 : Int32) (z : tq_S), B31 b2 z → tq_T K 41 x mm_X12_tellTerms 31 [.ref 51, .int a1, .int b2, .null] [] z Q) (h : wc_X12_tellTerms_70 B31 Q a1 a2 z) : tq_T K 41 x mm_X12_tellTerms 70 [.ref 51, .int a1, .int a2, .null] [] z Q := by
  unfold wc_X12_tellTerms_70 at h
  refine tq_k_ic (n := 0) (v := (0 : Int32)) (by decide +kernel) kc_0 ?_
  refine tq_s_istore_n (kk := 3) (L9 := [.ref 51, .int a1, .int a2, .int (0 : Int32)]) (by decide +kernel) (by decide) rfl ?_
  exact ac_X12_tellTerms_72 hB31 h
def wb_X12_tellTerms_51 (B31 : Int32 → tq_S → Prop) (B51 : Int32 → tq_S → Prop) (Q : tq_O → tq_S → Prop) (a1 : Int32) (a2 : Int32) (a3 : Int32) (z : tq_S) : Prop := (((64 : Int32) ≤ a3 → wc_X12_tellTerms_70 B31 Q a1 a2 z) ∧ (¬ (64 : Int32) ≤ a3 → vp_in a3 256 ∧ ∀ z101 : tq_S, z101 = tq_sal z 55 (vp_updL (tq_al z 55) (Int32.toNatClampNeg a3) (0 : Int64)) → ∀ v102 : Int32, v102 = a3 + (1 : Int32) → B51 v102 z101))
def wc_X12_tellTerms_51 (B31 : Int32 → tq_S → Prop) (Q : tq_O → tq_S → Prop) (a1 : Int32) (a2 : Int32) (a3 : Int32) (z : tq_S) : Prop := tq_lp (σ := Int32 × tq_S) (fun B s => wb_X12_tellTerms_51 B31 (fun b3 z => B (b3, z)) Q a1 a2 s.1 s.2) (a3, z)
theorem ab_X12_tellTerms_51 {K : Nat × (Nat → Int32)} {x : Nat} {Q : tq_O → tq_S → Prop} {B31 : Int32 → tq_S → Prop} {B51 : Int32 → tq_S → Prop} {a1 : Int32} {a2 : Int32} {a3 : Int32} {z : tq_S} (hB31 : ∀ (b2 : Int32) (z : tq_S), B31 b2 z → tq_T K 41 x mm_X12_tellTerms 31 [.ref 51, .int a1, .int b2, .null] [] z Q) (hB51 : ∀ (b3 : Int32) (z : tq_S), B51 b3 z → tq_T K 41 x mm_X12_tellTerms 51 [.ref 51, .int a1, .int a2, .int b3] [] z Q) (h : wb_X12_tellTerms_51 B31 B51 Q a1 a2 a3 z) : tq_T K 41 x mm_X12_tellTerms 51 [.ref 51, .int a1, .int a2, .int a3] [] z Q := by
  unfold wb_X12_tellTerms_51 at h
  refine tq_s_iload_n (kk := 3) (by decide +kernel) rfl ?_
  refine tq_k_bi (n := 64) (v := (64 : Int32)) (by decide +kernel) kb_64 ?_
  refine tq_icmp_ge (off := 16) (tgt := 70) (by decide +kernel) (by decide +kernel) (fun hc => ?_) (fun hc => ?_)
  · replace h := h.1 hc
    exact tq_to (tq_lk1 (tq_lk1 (tq_lk1 (tq_ld1 tq_l0)))) (ac_X12_tellTerms_70 hB31 h)
  · replace h := h.2 hc
    refine tq_s_aload_n (kk := 0) (by decide +kernel) rfl ?_
    refine fg_12_27_51 rfl (by decide +kernel) ?_
    refine tq_s_iload_n (kk := 3) (by decide +kernel) rfl ?_
    refine tq_k_lc (n := 0) (v := (0 : Int64)) (by decide +kernel) (by decide +kernel) ?_
    refine tq_g_last (by decide +kernel) sh_55 h.1 (fun z101 ez101 => ?_)
    replace h := h.2 z101 ez101
    refine tq_g_iinc (i := 3) (fun v102 => [.ref 51, .int a1, .int a2, .int v102]) (by decide +kernel) rfl (1 : Int32) kc_1 (fun _ => rfl) (fun v102 ev102 => ?_)
    replace h := h v102 ev102
    refine tq_s_goto (off := -16) (tgt := 51) (by decide +kernel) (by decide +kernel) ?_
    exact hB51 _ _ h
theorem ac_X12_tellTerms_51 {K : Nat × (Nat → Int32)} {x : Nat} {Q : tq_O → tq_S → Prop} {B31 : Int32 → tq_S → Prop} {a1 : Int32} {a2 : Int32} {a3 : Int32} {z : tq_S} (hB31 : ∀ (b2 : Int32) (z : tq_S), B31 b2 z → tq_T K 41 x mm_X12_tellTerms 31 [.ref 51, .int a1, .int b2, .null] [] z Q) (h : wc_X12_tellTerms_51 B31 Q a1 a2 a3 z) : tq_T K 41 x mm_X12_tellTerms 51 [.ref 51, .int a1, .int a2, .int a3] [] z Q :=
  tq_lp_T (σ := Int32 × tq_S) (s := (a3, z)) (G := fun s => tq_T K 41 x mm_X12_tellTerms 51 [.ref 51, .int a1, .int a2, .int s.1] [] s.2 Q) (fun B hB s h => ab_X12_tellTerms_51 hB31 (fun b3 z h => hB (b3, z) h) h) h
def wb_X12_tellTerms_31 (B31 : Int32 → tq_S → Prop) (Q : tq_O → tq_S → Prop) (a1 : Int32) (a2 : Int32) (z : tq_S) : Prop := (((48 : Int32) ≤ a2 → Q (.inl none) z) ∧ (¬ (48 : Int32) ≤ a2 → vp_in a2 48 ∧ ∀ z101 : tq_S, z101 = tq_sal z 78 (vp_updL (tq_al z 78) (Int32.toNatClampNeg a2) (tq_al z 54 (Int32.toNatClampNeg (0 : Int32)))) → wc_X12_tellTerms_51 B31 Q a1 a2 (0 : Int32) z101))
def wc_X12_tellTerms_31 (Q : tq_O → tq_S → Prop) (a1 : Int32) (a2 : Int32) (z : tq_S) : Prop := tq_lp (σ := Int32 × tq_S) (fun B s => wb_X12_tellTerms_31 (fun b2 z => B (b2, z)) Q a1 s.1 s.2) (a2, z)
theorem ab_X12_tellTerms_31 {K : Nat × (Nat → Int32)} {x : Nat} {Q : tq_O → tq_S → Prop} {B31 : Int32 → tq_S → Prop} {a1 : Int32} {a2 : Int32} {z : tq_S} (hB31 : ∀ (b2 : Int32) (z : tq_S), B31 b2 z → tq_T K 41 x mm_X12_tellTerms 31 [.ref 51, .int a1, .int b2, .null] [] z Q) (h : wb_X12_tellTerms_31 B31 Q a1 a2 z) : tq_T K 41 x mm_X12_tellTerms 31 [.ref 51, .int a1, .int a2, .null] [] z Q := by
  unfold wb_X12_tellTerms_31 at h
  refine tq_s_iload_n (kk := 2) (by decide +kernel) rfl ?_
  refine tq_k_bi (n := 48) (v := (48 : Int32)) (by decide +kernel) kb_48 ?_
  refine tq_icmp_ge (off := 108) (tgt := 142) (by decide +kernel) (by decide +kernel) (fun hc => ?_) (fun hc => ?_)
  · replace h := h.1 hc
    exact tq_ret_v (st := []) (by decide +kernel) rfl h
  · replace h := h.2 hc
    refine tq_s_aload_n (kk := 0) (by decide +kernel) rfl ?_
    refine fg_12_101_51 rfl (by decide +kernel) ?_
    refine tq_s_iload_n (kk := 2) (by decide +kernel) rfl ?_
    refine tq_s_aload_n (kk := 0) (by decide +kernel) rfl ?_
    refine fg_12_23_51 rfl (by decide +kernel) ?_
    refine tq_k_ic (n := 0) (v := (0 : Int32)) (by decide +kernel) kc_0 ?_
    refine tq_s_lald (by decide +kernel) sh_54 vi_0_256 ?_
    refine tq_g_last (by decide +kernel) sh_78 h.1 (fun z101 ez101 => ?_)
    replace h := h.2 z101 ez101
    refine tq_k_ic (n := 0) (v := (0 : Int32)) (by decide +kernel) kc_0 ?_
    refine tq_s_istore_n (kk := 3) (L9 := [.ref 51, .int a1, .int a2, .int (0 : Int32)]) (by decide +kernel) (by decide) rfl ?_
    exact ac_X12_tellTerms_51 hB31 h
theorem ac_X12_tellTerms_31 {K : Nat × (Nat → Int32)} {x : Nat} {Q : tq_O → tq_S → Prop} {a1 : Int32} {a2 : Int32} {z : tq_S} (h : wc_X12_tellTerms_31 Q a1 a2 z) : tq_T K 41 x mm_X12_tellTerms 31 [.ref 51, .int a1, .int a2, .null] [] z Q :=
  tq_lp_T (σ := Int32 × tq_S) (s := (a2, z)) (G := fun s => tq_T K 41 x mm_X12_tellTerms 31 [.ref 51, .int a1, .int s.1, .null] [] s.2 Q) (fun B hB s h => ab_X12_tellTerms_31 (fun b2 z h => hB (b2, z) h) h) h
def wc_X12_tellTerms_29 (Q : tq_O → tq_S → Prop) (a1 : Int32) (z : tq_S) : Prop := wc_X12_tellTerms_31 Q a1 (0 : Int32) z
theorem ac_X12_tellTerms_29 {K : Nat × (Nat → Int32)} {x : Nat} {Q : tq_O → tq_S → Prop} {a1 : Int32} {z : tq_S} (h : wc_X12_tellTerms_29 Q a1 z) : tq_T K 41 x mm_X12_tellTerms 29 [.ref 51, .int a1, .null, .null] [] z Q := by
  unfold wc_X12_tellTerms_29 at h
  refine tq_k_ic (n := 0) (v := (0 : Int32)) (by decide +kernel) kc_0 ?_
  refine tq_s_istore_n (kk := 2) (L9 := [.ref 51, .int a1, .int (0 : Int32), .null]) (by decide +kernel) (by decide) rfl ?_
  exact ac_X12_tellTerms_31 h
def wb_X12_tellTerms_2 (B2 : Int32 → tq_S → Prop) (Q : tq_O → tq_S → Prop) (a1 : Int32) (a2 : Int32) (z : tq_S) : Prop := (((64 : Int32) ≤ a2 → wc_X12_tellTerms_29 Q a1 z) ∧ (¬ (64 : Int32) ≤ a2 → ((¬ a2 = 0 → wc_X12_tellTerms_22 B2 Q a1 a2 (0 : Int64) a2 z) ∧ (a2 = 0 → wc_X12_tellTerms_22 B2 Q a1 a2 (1 : Int64) a2 z))))
def wc_X12_tellTerms_2 (Q : tq_O → tq_S → Prop) (a1 : Int32) (a2 : Int32) (z : tq_S) : Prop := tq_lp (σ := Int32 × tq_S) (fun B s => wb_X12_tellTerms_2 (fun b2 z => B (b2, z)) Q a1 s.1 s.2) (a2, z)
theorem ab_X12_tellTerms_2 {K : Nat × (Nat → Int32)} {x : Nat} {Q : tq_O → tq_S → Prop} {B2 : Int32 → tq_S → Prop} {a1 : Int32} {a2 : Int32} {z : tq_S} (hB2 : ∀ (b2 : Int32) (z : tq_S), B2 b2 z → tq_T K 41 x mm_X12_tellTerms 2 [.ref 51, .int a1, .int b2, .null] [] z Q) (h : wb_X12_tellTerms_2 B2 Q a1 a2 z) : tq_T K 41 x mm_X12_tellTerms 2 [.ref 51, .int a1, .int a2, .null] [] z Q := by
  unfold wb_X12_tellTerms_2 at h
  refine tq_s_iload_n (kk := 2) (by decide +kernel) rfl ?_
  refine tq_k_bi (n := 64) (v := (64 : Int32)) (by decide +kernel) kb_64 ?_
  refine tq_icmp_ge (off := 24) (tgt := 29) (by decide +kernel) (by decide +kernel) (fun hc => ?_) (fun hc => ?_)
  · replace h := h.1 hc
    exact tq_to (tq_lk1 (tq_lk1 (tq_ld1 (tq_lk1 tq_l0)))) (ac_X12_tellTerms_29 h)
  · replace h := h.2 hc
    refine tq_s_aload_n (kk := 0) (by decide +kernel) rfl ?_
    refine fg_12_23_51 rfl (by decide +kernel) ?_
    refine tq_s_iload_n (kk := 2) (by decide +kernel) rfl ?_
    refine tq_s_iload_n (kk := 2) (by decide +kernel) rfl ?_
    refine tq_if_ne (off := 7) (tgt := 21) (by decide +kernel) (by decide +kernel) (fun hc => ?_) (fun hc => ?_)
    · replace h := h.1 hc
      refine tq_k_lc (n := 0) (v := (0 : Int64)) (by decide +kernel) (by decide +kernel) ?_
      exact ac_X12_tellTerms_22 hB2 h
    · replace h := h.2 hc
      refine tq_k_lc (n := 1) (v := (1 : Int64)) (by decide +kernel) (by decide +kernel) ?_
      refine tq_s_goto (off := 4) (tgt := 22) (by decide +kernel) (by decide +kernel) ?_
      exact ac_X12_tellTerms_22 hB2 h
theorem ac_X12_tellTerms_2 {K : Nat × (Nat → Int32)} {x : Nat} {Q : tq_O → tq_S → Prop} {a1 : Int32} {a2 : Int32} {z : tq_S} (h : wc_X12_tellTerms_2 Q a1 a2 z) : tq_T K 41 x mm_X12_tellTerms 2 [.ref 51, .int a1, .int a2, .null] [] z Q :=
  tq_lp_T (σ := Int32 × tq_S) (s := (a2, z)) (G := fun s => tq_T K 41 x mm_X12_tellTerms 2 [.ref 51, .int a1, .int s.1, .null] [] s.2 Q) (fun B hB s h => ab_X12_tellTerms_2 (fun b2 z h => hB (b2, z) h) h) h
def wm_X12_tellTerms (a1 : Int32) (z : tq_S) (Q : tq_O → tq_S → Prop) : Prop := wc_X12_tellTerms_2 Q a1 (0 : Int32) z
theorem am_X12_tellTerms {K : Nat × (Nat → Int32)} {x : Nat} {z : tq_S} {Q : tq_O → tq_S → Prop} {a1 : Int32} (h : wm_X12_tellTerms a1 z Q) : tq_M K 41 x mm_X12_tellTerms [.ref 51, .int a1] z Q := by
  unfold wm_X12_tellTerms at h
  refine tq_enter (L := [.ref 51, .int a1, .null, .null]) mf_X12_tellTerms.1 rfl rfl (Nat.le_of_ble_eq_true rfl) ?_
  refine tq_k_ic (n := 0) (v := (0 : Int32)) (by decide +kernel) kc_0 ?_
  refine tq_s_istore_n (kk := 2) (L9 := [.ref 51, .int a1, .int (0 : Int32), .null]) (by decide +kernel) (by decide) rfl ?_
  exact ac_X12_tellTerms_2 h
def wc_X12_power_43 (B13 : Int64 → Int64 → Int64 → tq_S → Prop) (Q : tq_O → tq_S → Prop) (a6 : Int64) (a8 : Int64) (s0 : Int64) (z : tq_S) : Prop := ∀ v101 : Int64, v101 = ((a6 * a6) - (a6 * a6) / (2147483647 : Int64) * (2147483647 : Int64)) → ∀ v102 : Int64, v102 = (a8 >>> ((Int32.toInt64 (1 : Int32)) &&& 63)) → B13 s0 v101 v102 z
theorem ac_X12_power_43 {K : Nat × (Nat → Int32)} {x : Nat} {Q : tq_O → tq_S → Prop} {B13 : Int64 → Int64 → Int64 → tq_S → Prop} {a6 : Int64} {a8 : Int64} {s0 : Int64} {z : tq_S} (hB13 : ∀ (b4 : Int64) (b6 : Int64) (b8 : Int64) (z : tq_S), B13 b4 b6 b8 z → tq_T K 0 x mm_X12_power 13 [.null, .null, .null, .null, .long b4, .null, .long b6, .null, .long b8, .null] [] z Q) (h : wc_X12_power_43 B13 Q a6 a8 s0 z) : tq_T K 0 x mm_X12_power 43 [.null, .null, .null, .null, .null, .null, .long a6, .null, .long a8, .null] [.long s0] z Q := by
  unfold wc_X12_power_43 at h
  refine tq_s_lstore (i := 4) (L9 := [.null, .null, .null, .null, .long s0, .null, .long a6, .null, .long a8, .null]) (by decide +kernel) (by decide) rfl ?_
  refine tq_s_lload (i := 6) (by decide +kernel) rfl ?_
  refine tq_s_lload (i := 6) (by decide +kernel) rfl ?_
  refine tq_s_lmul (by decide +kernel) ?_
  refine tq_s_ldc2 (i := 412) (v := (2147483647 : Int64)) (by decide +kernel) (by decide +kernel) ?_
  refine tq_s_lrem (by decide +kernel) (by decide +kernel) ?_
  refine tq_g_lstore (i := 6) (fun v101 => [.null, .null, .null, .null, .long s0, .null, .long v101, .null, .long a8, .null]) (by decide +kernel) (by decide) (fun _ => rfl) (fun v101 ev101 => ?_)
  replace h := h v101 ev101
  refine tq_s_lload (i := 8) (by decide +kernel) rfl ?_
  refine tq_k_ic (n := 1) (v := (1 : Int32)) (by decide +kernel) kc_1 ?_
  refine tq_s_lshr (by decide +kernel) ?_
  refine tq_g_lstore (i := 8) (fun v102 => [.null, .null, .null, .null, .long s0, .null, .long v101, .null, .long v102, .null]) (by decide +kernel) (by decide) (fun _ => rfl) (fun v102 ev102 => ?_)
  replace h := h v102 ev102
  refine tq_s_goto (off := -49) (tgt := 13) (by decide +kernel) (by decide +kernel) ?_
  exact hB13 _ _ _ _ h
def wb_X12_power_13 (B13 : Int64 → Int64 → Int64 → tq_S → Prop) (Q : tq_O → tq_S → Prop) (a4 : Int64) (a6 : Int64) (a8 : Int64) (z : tq_S) : Prop := ((a8 ≤ (0 : Int64) → Q (.inl (some (.long a4))) z) ∧ (¬ a8 ≤ (0 : Int64) → ((¬ (a8 &&& (1 : Int64)) = (1 : Int64) → wc_X12_power_43 B13 Q a6 a8 a4 z) ∧ ((a8 &&& (1 : Int64)) = (1 : Int64) → wc_X12_power_43 B13 Q a6 a8 ((a4 * a6) - (a4 * a6) / (2147483647 : Int64) * (2147483647 : Int64)) z))))
def wc_X12_power_13 (Q : tq_O → tq_S → Prop) (a4 : Int64) (a6 : Int64) (a8 : Int64) (z : tq_S) : Prop := tq_lp (σ := Int64 × Int64 × Int64 × tq_S) (fun B s => wb_X12_power_13 (fun b4 b6 b8 z => B (b4, b6, b8, z)) Q s.1 s.2.1 s.2.2.1 s.2.2.2) (a4, a6, a8, z)
theorem ab_X12_power_13 {K : Nat × (Nat → Int32)} {x : Nat} {Q : tq_O → tq_S → Prop} {B13 : Int64 → Int64 → Int64 → tq_S → Prop} {a4 : Int64} {a6 : Int64} {a8 : Int64} {z : tq_S} (hB13 : ∀ (b4 : Int64) (b6 : Int64) (b8 : Int64) (z : tq_S), B13 b4 b6 b8 z → tq_T K 0 x mm_X12_power 13 [.null, .null, .null, .null, .long b4, .null, .long b6, .null, .long b8, .null] [] z Q) (h : wb_X12_power_13 B13 Q a4 a6 a8 z) : tq_T K 0 x mm_X12_power 13 [.null, .null, .null, .null, .long a4, .null, .long a6, .null, .long a8, .null] [] z Q := by
  unfold wb_X12_power_13 at h
  refine tq_s_lload (i := 8) (by decide +kernel) rfl ?_
  refine tq_k_lc (n := 0) (v := (0 : Int64)) (by decide +kernel) (by decide +kernel) ?_
  refine tq_lcmp_le (off := 48) (tgt := 65) (by decide +kernel) (by decide +kernel) (by decide +kernel) (fun hc => ?_) (fun hc => ?_)
  · replace h := h.1 hc
    refine tq_s_lload (i := 4) (by decide +kernel) rfl ?_
    exact tq_ret_l (st := []) (by decide +kernel) rfl h
  · replace h := h.2 hc
    refine tq_s_lload (i := 8) (by decide +kernel) rfl ?_
    refine tq_k_lc (n := 1) (v := (1 : Int64)) (by decide +kernel) (by decide +kernel) ?_
    refine tq_s_land (by decide +kernel) ?_
    refine tq_k_lc (n := 1) (v := (1 : Int64)) (by decide +kernel) (by decide +kernel) ?_
    refine tq_lcmp_ne (off := 15) (tgt := 41) (by decide +kernel) (by decide +kernel) (by decide +kernel) (fun hc => ?_) (fun hc => ?_)
    · replace h := h.1 hc
      refine tq_s_lload (i := 4) (by decide +kernel) rfl ?_
      exact tq_to (tq_lk1 (tq_lk1 (tq_lk1 (tq_lk1 (tq_ld1 (tq_lk1 (tq_lk1 (tq_lk1 (tq_lk1 (tq_lk1 tq_l0)))))))))) (ac_X12_power_43 hB13 h)
    · replace h := h.2 hc
      refine tq_s_lload (i := 4) (by decide +kernel) rfl ?_
      refine tq_s_lload (i := 6) (by decide +kernel) rfl ?_
      refine tq_s_lmul (by decide +kernel) ?_
      refine tq_s_ldc2 (i := 412) (v := (2147483647 : Int64)) (by decide +kernel) (by decide +kernel) ?_
      refine tq_s_lrem (by decide +kernel) (by decide +kernel) ?_
      refine tq_s_goto (off := 5) (tgt := 43) (by decide +kernel) (by decide +kernel) ?_
      exact tq_to (tq_lk1 (tq_lk1 (tq_lk1 (tq_lk1 (tq_ld1 (tq_lk1 (tq_lk1 (tq_lk1 (tq_lk1 (tq_lk1 tq_l0)))))))))) (ac_X12_power_43 hB13 h)
theorem ac_X12_power_13 {K : Nat × (Nat → Int32)} {x : Nat} {Q : tq_O → tq_S → Prop} {a4 : Int64} {a6 : Int64} {a8 : Int64} {z : tq_S} (h : wc_X12_power_13 Q a4 a6 a8 z) : tq_T K 0 x mm_X12_power 13 [.null, .null, .null, .null, .long a4, .null, .long a6, .null, .long a8, .null] [] z Q :=
  tq_lp_T (σ := Int64 × Int64 × Int64 × tq_S) (s := (a4, a6, a8, z)) (G := fun s => tq_T K 0 x mm_X12_power 13 [.null, .null, .null, .null, .long s.1, .null, .long s.2.1, .null, .long s.2.2.1, .null] [] s.2.2.2 Q) (fun B hB s h => ab_X12_power_13 (fun b4 b6 b8 z h => hB (b4, b6, b8, z) h) h) h
def wm_X12_power (a0 : Int64) (a2 : Int64) (z : tq_S) (Q : tq_O → tq_S → Prop) : Prop := ∀ v1 : Int64, v1 = (a0 - a0 / (2147483647 : Int64) * (2147483647 : Int64)) → wc_X12_power_13 Q (1 : Int64) v1 a2 z
theorem am_X12_power {K : Nat × (Nat → Int32)} {x : Nat} {z : tq_S} {Q : tq_O → tq_S → Prop} {a0 : Int64} {a2 : Int64} (h : wm_X12_power a0 a2 z Q) : tq_M K 0 x mm_X12_power [.long a0, .long a2] z Q := by
  unfold wm_X12_power at h
  refine tq_enter (L := [.long a0, .null, .long a2, .null, .null, .null, .null, .null, .null, .null]) mf_X12_power.1 rfl rfl (Nat.le_of_ble_eq_true rfl) ?_
  refine tq_k_lc (n := 1) (v := (1 : Int64)) (by decide +kernel) (by decide +kernel) ?_
  refine tq_s_lstore (i := 4) (L9 := [.long a0, .null, .long a2, .null, .long (1 : Int64), .null, .null, .null, .null, .null]) (by decide +kernel) (by decide) rfl ?_
  refine tq_s_lload_n (kk := 0) (by decide +kernel) rfl ?_
  refine tq_s_ldc2 (i := 412) (v := (2147483647 : Int64)) (by decide +kernel) (by decide +kernel) ?_
  refine tq_s_lrem (by decide +kernel) (by decide +kernel) ?_
  refine tq_g_lstore (i := 6) (fun v1 => [.long a0, .null, .long a2, .null, .long (1 : Int64), .null, .long v1, .null, .null, .null]) (by decide +kernel) (by decide) (fun _ => rfl) (fun v1 ev1 => ?_)
  replace h := h v1 ev1
  refine tq_s_lload_n (kk := 2) (by decide +kernel) rfl ?_
  refine tq_s_lstore (i := 8) (L9 := [.long a0, .null, .long a2, .null, .long (1 : Int64), .null, .long v1, .null, .long a2, .null]) (by decide +kernel) (by decide) rfl ?_
  exact tq_to (tq_ld1 (tq_lk1 (tq_ld1 (tq_lk1 (tq_lk1 (tq_lk1 (tq_lk1 (tq_lk1 (tq_lk1 (tq_lk1 tq_l0)))))))))) (ac_X12_power_13 h)
def wc_X12_tellRule_27 (B7 : Int32 → tq_S → Prop) (Q : tq_O → tq_S → Prop) (a2 : Int32) (s0 : Int64) (s1 : Int32) (z : tq_S) : Prop := vp_in s1 48 ∧ ∀ z101 : tq_S, z101 = tq_sal z 79 (vp_updL (tq_al z 79) (Int32.toNatClampNeg s1) s0) → vp_in a2 48 ∧ vp_in a2 48 ∧ ∀ z102 : tq_S, z102 = tq_sal z101 80 (vp_updL (tq_al z101 80) (Int32.toNatClampNeg a2) (tq_al z101 79 (Int32.toNatClampNeg a2))) → ∀ v103 : Int32, v103 = a2 + (1 : Int32) → B7 v103 z102
theorem ac_X12_tellRule_27 {K : Nat × (Nat → Int32)} {x : Nat} {Q : tq_O → tq_S → Prop} {B7 : Int32 → tq_S → Prop} {a2 : Int32} {s0 : Int64} {s1 : Int32} {z : tq_S} (hB7 : ∀ (b2 : Int32) (z : tq_S), B7 b2 z → tq_T K 42 x mm_X12_tellRule 7 [.ref 51, .null, .int b2, .null, .null, .null, .null, .null, .null, .null, .null] [] z Q) (h : wc_X12_tellRule_27 B7 Q a2 s0 s1 z) : tq_T K 42 x mm_X12_tellRule 27 [.ref 51, .null, .int a2, .null, .null, .null, .null, .null, .null, .null, .null] [.long s0, .int s1, .ref 79] z Q := by
  unfold wc_X12_tellRule_27 at h
  refine tq_g_last (by decide +kernel) sh_79 h.1 (fun z101 ez101 => ?_)
  replace h := h.2 z101 ez101
  refine tq_s_aload_n (kk := 0) (by decide +kernel) rfl ?_
  refine fg_12_107_51 rfl (by decide +kernel) ?_
  refine tq_s_iload_n (kk := 2) (by decide +kernel) rfl ?_
  refine tq_s_aload_n (kk := 0) (by decide +kernel) rfl ?_
  refine fg_12_104_51 rfl (by decide +kernel) ?_
  refine tq_s_iload_n (kk := 2) (by decide +kernel) rfl ?_
  refine tq_s_lald (by decide +kernel) sh_79 h.1 ?_
  replace h := h.2
  refine tq_g_last (by decide +kernel) sh_80 h.1 (fun z102 ez102 => ?_)
  replace h := h.2 z102 ez102
  refine tq_g_iinc (i := 2) (fun v103 => [.ref 51, .null, .int v103, .null, .null, .null, .null, .null, .null, .null, .null]) (by decide +kernel) rfl (1 : Int32) kc_1 (fun _ => rfl) (fun v103 ev103 => ?_)
  replace h := h v103 ev103
  refine tq_s_goto (off := -36) (tgt := 7) (by decide +kernel) (by decide +kernel) ?_
  exact hB7 _ _ h
def wc_X12_tellRule_298 (B58 : Int32 → Int64 → Int32 → tq_S → Prop) (Q : tq_O → tq_S → Prop) (a2 : Int32) (a3 : Int64) (a5 : Int32) (z : tq_S) : Prop := ∀ v101 : Int32, v101 = a5 + (1 : Int32) → B58 a2 a3 v101 z
theorem ac_X12_tellRule_298 {K : Nat × (Nat → Int32)} {x : Nat} {Q : tq_O → tq_S → Prop} {B58 : Int32 → Int64 → Int32 → tq_S → Prop} {a2 : Int32} {a3 : Int64} {a5 : Int32} {z : tq_S} (hB58 : ∀ (b2 : Int32) (b3 : Int64) (b5 : Int32) (z : tq_S), B58 b2 b3 b5 z → tq_T K 42 x mm_X12_tellRule 58 [.ref 51, .null, .int b2, .long b3, .null, .int b5, .null, .null, .null, .null, .null] [] z Q) (h : wc_X12_tellRule_298 B58 Q a2 a3 a5 z) : tq_T K 42 x mm_X12_tellRule 298 [.ref 51, .null, .int a2, .long a3, .null, .int a5, .null, .null, .null, .null, .null] [] z Q := by
  unfold wc_X12_tellRule_298 at h
  refine tq_g_iinc (i := 5) (fun v101 => [.ref 51, .null, .int a2, .long a3, .null, .int v101, .null, .null, .null, .null, .null]) (by decide +kernel) rfl (1 : Int32) kc_1 (fun _ => rfl) (fun v101 ev101 => ?_)
  replace h := h v101 ev101
  refine tq_s_goto (off := -243) (tgt := 58) (by decide +kernel) (by decide +kernel) ?_
  exact hB58 _ _ _ _ h
def wc_X12_tellRule_287 (B58 : Int32 → Int64 → Int32 → tq_S → Prop) (Q : tq_O → tq_S → Prop) (a5 : Int32) (a6 : Int64) (z : tq_S) : Prop := wc_X12_tellRule_298 B58 Q (1 : Int32) a6 a5 z
theorem ac_X12_tellRule_287 {K : Nat × (Nat → Int32)} {x : Nat} {Q : tq_O → tq_S → Prop} {B58 : Int32 → Int64 → Int32 → tq_S → Prop} {a5 : Int32} {a6 : Int64} {z : tq_S} (hB58 : ∀ (b2 : Int32) (b3 : Int64) (b5 : Int32) (z : tq_S), B58 b2 b3 b5 z → tq_T K 42 x mm_X12_tellRule 58 [.ref 51, .null, .int b2, .long b3, .null, .int b5, .null, .null, .null, .null, .null] [] z Q) (h : wc_X12_tellRule_287 B58 Q a5 a6 z) : tq_T K 42 x mm_X12_tellRule 287 [.ref 51, .null, .null, .null, .null, .int a5, .long a6, .null, .null, .null, .null] [] z Q := by
  unfold wc_X12_tellRule_287 at h
  refine tq_s_lload (i := 6) (by decide +kernel) rfl ?_
  refine tq_s_lstore_n (kk := 3) (L9 := [.ref 51, .null, .null, .long a6, .null, .int a5, .long a6, .null, .null, .null, .null]) (by decide +kernel) (by decide) rfl ?_
  refine tq_k_ic (n := 1) (v := (1 : Int32)) (by decide +kernel) kc_1 ?_
  refine tq_s_istore_n (kk := 2) (L9 := [.ref 51, .null, .int (1 : Int32), .long a6, .null, .int a5, .long a6, .null, .null, .null, .null]) (by decide +kernel) (by decide) rfl ?_
  refine tq_s_goto (off := 6) (tgt := 298) (by decide +kernel) (by decide +kernel) ?_
  exact tq_to (tq_lk1 (tq_lk1 (tq_lk1 (tq_lk1 (tq_lk1 (tq_lk1 (tq_ld1 (tq_lk1 (tq_lk1 (tq_lk1 (tq_lk1 tq_l0))))))))))) (ac_X12_tellRule_298 hB58 h)
def wb_X12_tellRule_260 (B58 : Int32 → Int64 → Int32 → tq_S → Prop) (B260 : Int32 → tq_S → Prop) (Q : tq_O → tq_S → Prop) (a5 : Int32) (a6 : Int64) (a10 : Int32) (z : tq_S) : Prop := (((48 : Int32) ≤ a10 → wc_X12_tellRule_287 B58 Q a5 a6 z) ∧ (¬ (48 : Int32) ≤ a10 → vp_in a10 48 ∧ vp_in a10 48 ∧ ∀ z101 : tq_S, z101 = tq_sal z 80 (vp_updL (tq_al z 80) (Int32.toNatClampNeg a10) (tq_al z 81 (Int32.toNatClampNeg a10))) → ∀ v102 : Int32, v102 = a10 + (1 : Int32) → B260 v102 z101))
def wc_X12_tellRule_260 (B58 : Int32 → Int64 → Int32 → tq_S → Prop) (Q : tq_O → tq_S → Prop) (a5 : Int32) (a6 : Int64) (a10 : Int32) (z : tq_S) : Prop := tq_lp (σ := Int32 × tq_S) (fun B s => wb_X12_tellRule_260 B58 (fun b10 z => B (b10, z)) Q a5 a6 s.1 s.2) (a10, z)
theorem ab_X12_tellRule_260 {K : Nat × (Nat → Int32)} {x : Nat} {Q : tq_O → tq_S → Prop} {B58 : Int32 → Int64 → Int32 → tq_S → Prop} {B260 : Int32 → tq_S → Prop} {a5 : Int32} {a6 : Int64} {a10 : Int32} {z : tq_S} (hB58 : ∀ (b2 : Int32) (b3 : Int64) (b5 : Int32) (z : tq_S), B58 b2 b3 b5 z → tq_T K 42 x mm_X12_tellRule 58 [.ref 51, .null, .int b2, .long b3, .null, .int b5, .null, .null, .null, .null, .null] [] z Q) (hB260 : ∀ (b10 : Int32) (z : tq_S), B260 b10 z → tq_T K 42 x mm_X12_tellRule 260 [.ref 51, .null, .null, .null, .null, .int a5, .long a6, .null, .null, .null, .int b10] [] z Q) (h : wb_X12_tellRule_260 B58 B260 Q a5 a6 a10 z) : tq_T K 42 x mm_X12_tellRule 260 [.ref 51, .null, .null, .null, .null, .int a5, .long a6, .null, .null, .null, .int a10] [] z Q := by
  unfold wb_X12_tellRule_260 at h
  refine tq_s_iload (i := 10) (by decide +kernel) rfl ?_
  refine tq_k_bi (n := 48) (v := (48 : Int32)) (by decide +kernel) kb_48 ?_
  refine tq_icmp_ge (off := 23) (tgt := 287) (by decide +kernel) (by decide +kernel) (fun hc => ?_) (fun hc => ?_)
  · replace h := h.1 hc
    exact tq_to (tq_lk1 (tq_lk1 (tq_lk1 (tq_lk1 (tq_lk1 (tq_lk1 (tq_lk1 (tq_lk1 (tq_lk1 (tq_lk1 (tq_ld1 tq_l0))))))))))) (ac_X12_tellRule_287 hB58 h)
  · replace h := h.2 hc
    refine tq_s_aload_n (kk := 0) (by decide +kernel) rfl ?_
    refine fg_12_107_51 rfl (by decide +kernel) ?_
    refine tq_s_iload (i := 10) (by decide +kernel) rfl ?_
    refine tq_s_aload_n (kk := 0) (by decide +kernel) rfl ?_
    refine fg_12_110_51 rfl (by decide +kernel) ?_
    refine tq_s_iload (i := 10) (by decide +kernel) rfl ?_
    refine tq_s_lald (by decide +kernel) sh_81 h.1 ?_
    replace h := h.2
    refine tq_g_last (by decide +kernel) sh_80 h.1 (fun z101 ez101 => ?_)
    replace h := h.2 z101 ez101
    refine tq_g_iinc (i := 10) (fun v102 => [.ref 51, .null, .null, .null, .null, .int a5, .long a6, .null, .null, .null, .int v102]) (by decide +kernel) rfl (1 : Int32) kc_1 (fun _ => rfl) (fun v102 ev102 => ?_)
    replace h := h v102 ev102
    refine tq_s_goto (off := -24) (tgt := 260) (by decide +kernel) (by decide +kernel) ?_
    exact hB260 _ _ h
theorem ac_X12_tellRule_260 {K : Nat × (Nat → Int32)} {x : Nat} {Q : tq_O → tq_S → Prop} {B58 : Int32 → Int64 → Int32 → tq_S → Prop} {a5 : Int32} {a6 : Int64} {a10 : Int32} {z : tq_S} (hB58 : ∀ (b2 : Int32) (b3 : Int64) (b5 : Int32) (z : tq_S), B58 b2 b3 b5 z → tq_T K 42 x mm_X12_tellRule 58 [.ref 51, .null, .int b2, .long b3, .null, .int b5, .null, .null, .null, .null, .null] [] z Q) (h : wc_X12_tellRule_260 B58 Q a5 a6 a10 z) : tq_T K 42 x mm_X12_tellRule 260 [.ref 51, .null, .null, .null, .null, .int a5, .long a6, .null, .null, .null, .int a10] [] z Q :=
  tq_lp_T (σ := Int32 × tq_S) (s := (a10, z)) (G := fun s => tq_T K 42 x mm_X12_tellRule 260 [.ref 51, .null, .null, .null, .null, .int a5, .long a6, .null, .null, .null, .int s.1] [] s.2 Q) (fun B hB s h => ab_X12_tellRule_260 hB58 (fun b10 z h => hB (b10, z) h) h) h
def wc_X12_tellRule_233 (B58 : Int32 → Int64 → Int32 → tq_S → Prop) (Q : tq_O → tq_S → Prop) (a2 : Int32) (a3 : Int64) (a5 : Int32) (a6 : Int64) (z : tq_S) : Prop := ((a5 < ((2 : Int32) * (tq_fi z 3313)) → ∀ v101 : Int32, v101 = a2 + (1 : Int32) → wc_X12_tellRule_298 B58 Q v101 a3 a5 z) ∧ (¬ a5 < ((2 : Int32) * (tq_fi z 3313)) → ∀ z102 : tq_S, z102 = tq_sfi z 3313 ((a5 + (1 : Int32)) - (tq_fi z 3313)) → wc_X12_tellRule_260 B58 Q a5 a6 (0 : Int32) z102))
theorem ac_X12_tellRule_233 {K : Nat × (Nat → Int32)} {x : Nat} {Q : tq_O → tq_S → Prop} {B58 : Int32 → Int64 → Int32 → tq_S → Prop} {a2 : Int32} {a3 : Int64} {a5 : Int32} {a6 : Int64} {z : tq_S} (hB58 : ∀ (b2 : Int32) (b3 : Int64) (b5 : Int32) (z : tq_S), B58 b2 b3 b5 z → tq_T K 42 x mm_X12_tellRule 58 [.ref 51, .null, .int b2, .long b3, .null, .int b5, .null, .null, .null, .null, .null] [] z Q) (h : wc_X12_tellRule_233 B58 Q a2 a3 a5 a6 z) : tq_T K 42 x mm_X12_tellRule 233 [.ref 51, .null, .int a2, .long a3, .null, .int a5, .long a6, .null, .null, .null, .null] [] z Q := by
  unfold wc_X12_tellRule_233 at h
  refine tq_k_ic (n := 2) (v := (2 : Int32)) (by decide +kernel) kc_2 ?_
  refine tq_s_aload_n (kk := 0) (by decide +kernel) rfl ?_
  refine fg_12_417_51 rfl (by decide +kernel) ?_
  refine tq_s_imul (by decide +kernel) ?_
  refine tq_s_iload (i := 5) (by decide +kernel) rfl ?_
  refine tq_icmp_gt (off := 54) (tgt := 295) (by decide +kernel) (by decide +kernel) (fun hc => ?_) (fun hc => ?_)
  · replace h := h.1 hc
    refine tq_g_iinc (i := 2) (fun v101 => [.ref 51, .null, .int v101, .long a3, .null, .int a5, .long a6, .null, .null, .null, .null]) (by decide +kernel) rfl (1 : Int32) kc_1 (fun _ => rfl) (fun v101 ev101 => ?_)
    replace h := h v101 ev101
    exact tq_to (tq_lk1 (tq_lk1 (tq_lk1 (tq_lk1 (tq_lk1 (tq_lk1 (tq_ld1 (tq_lk1 (tq_lk1 (tq_lk1 (tq_lk1 tq_l0))))))))))) (ac_X12_tellRule_298 hB58 h)
  · replace h := h.2 hc
    refine tq_s_aload_n (kk := 0) (by decide +kernel) rfl ?_
    refine tq_s_iload (i := 5) (by decide +kernel) rfl ?_
    refine tq_k_ic (n := 1) (v := (1 : Int32)) (by decide +kernel) kc_1 ?_
    refine tq_s_iadd (by decide +kernel) ?_
    refine tq_s_aload_n (kk := 0) (by decide +kernel) rfl ?_
    refine fg_12_417_51 rfl (by decide +kernel) ?_
    refine tq_s_isub (by decide +kernel) ?_
    refine fp_12_417_51 rfl (by decide +kernel) (fun z102 ez102 => ?_)
    replace h := h z102 ez102
    refine tq_k_ic (n := 0) (v := (0 : Int32)) (by decide +kernel) kc_0 ?_
    refine tq_s_istore (i := 10) (L9 := [.ref 51, .null, .int a2, .long a3, .null, .int a5, .long a6, .null, .null, .null, .int (0 : Int32)]) (by decide +kernel) (by decide) rfl ?_
    exact tq_to (tq_lk1 (tq_lk1 (tq_ld1 (tq_ld1 (tq_lk1 (tq_lk1 (tq_lk1 (tq_lk1 (tq_lk1 (tq_lk1 (tq_lk1 tq_l0))))))))))) (ac_X12_tellRule_260 hB58 h)
def wb_X12_tellRule_181 (B58 : Int32 → Int64 → Int32 → tq_S → Prop) (B181 : Int32 → tq_S → Prop) (Q : tq_O → tq_S → Prop) (a2 : Int32) (a3 : Int64) (a5 : Int32) (a6 : Int64) (a8 : Int64) (a10 : Int32) (z : tq_S) : Prop := (((48 : Int32) ≤ (a10 + a2) → wc_X12_tellRule_233 B58 Q a2 a3 a5 a6 z) ∧ (¬ (48 : Int32) ≤ (a10 + a2) → vp_in (a10 + a2) 48 ∧ vp_in a10 48 ∧ vp_in (a10 + a2) 48 ∧ ∀ z101 : tq_S, z101 = tq_sal z 79 (vp_updL (tq_al z 79) (Int32.toNatClampNeg (a10 + a2)) (((tq_al z 79 (Int32.toNatClampNeg (a10 + a2))) + (((2147483647 : Int64) - a8) * (tq_al z 80 (Int32.toNatClampNeg a10)))) - ((tq_al z 79 (Int32.toNatClampNeg (a10 + a2))) + (((2147483647 : Int64) - a8) * (tq_al z 80 (Int32.toNatClampNeg a10)))) / (2147483647 : Int64) * (2147483647 : Int64))) → ∀ v102 : Int32, v102 = a10 + (1 : Int32) → B181 v102 z101))
def wc_X12_tellRule_181 (B58 : Int32 → Int64 → Int32 → tq_S → Prop) (Q : tq_O → tq_S → Prop) (a2 : Int32) (a3 : Int64) (a5 : Int32) (a6 : Int64) (a8 : Int64) (a10 : Int32) (z : tq_S) : Prop := tq_lp (σ := Int32 × tq_S) (fun B s => wb_X12_tellRule_181 B58 (fun b10 z => B (b10, z)) Q a2 a3 a5 a6 a8 s.1 s.2) (a10, z)
theorem ab_X12_tellRule_181 {K : Nat × (Nat → Int32)} {x : Nat} {Q : tq_O → tq_S → Prop} {B58 : Int32 → Int64 → Int32 → tq_S → Prop} {B181 : Int32 → tq_S → Prop} {a2 : Int32} {a3 : Int64} {a5 : Int32} {a6 : Int64} {a8 : Int64} {a10 : Int32} {z : tq_S} (hB58 : ∀ (b2 : Int32) (b3 : Int64) (b5 : Int32) (z : tq_S), B58 b2 b3 b5 z → tq_T K 42 x mm_X12_tellRule 58 [.ref 51, .null, .int b2, .long b3, .null, .int b5, .null, .null, .null, .null, .null] [] z Q) (hB181 : ∀ (b10 : Int32) (z : tq_S), B181 b10 z → tq_T K 42 x mm_X12_tellRule 181 [.ref 51, .null, .int a2, .long a3, .null, .int a5, .long a6, .null, .long a8, .null, .int b10] [] z Q) (h : wb_X12_tellRule_181 B58 B181 Q a2 a3 a5 a6 a8 a10 z) : tq_T K 42 x mm_X12_tellRule 181 [.ref 51, .null, .int a2, .long a3, .null, .int a5, .long a6, .null, .long a8, .null, .int a10] [] z Q := by
  unfold wb_X12_tellRule_181 at h
  refine tq_s_iload (i := 10) (by decide +kernel) rfl ?_
  refine tq_s_iload_n (kk := 2) (by decide +kernel) rfl ?_
  refine tq_s_iadd (by decide +kernel) ?_
  refine tq_k_bi (n := 48) (v := (48 : Int32)) (by decide +kernel) kb_48 ?_
  refine tq_icmp_ge (off := 46) (tgt := 233) (by decide +kernel) (by decide +kernel) (fun hc => ?_) (fun hc => ?_)
  · replace h := h.1 hc
    exact tq_to (tq_lk1 (tq_lk1 (tq_lk1 (tq_lk1 (tq_lk1 (tq_lk1 (tq_lk1 (tq_lk1 (tq_ld1 (tq_lk1 (tq_ld1 tq_l0))))))))))) (ac_X12_tellRule_233 hB58 h)
  · replace h := h.2 hc
    refine tq_s_aload_n (kk := 0) (by decide +kernel) rfl ?_
    refine fg_12_104_51 rfl (by decide +kernel) ?_
    refine tq_s_iload (i := 10) (by decide +kernel) rfl ?_
    refine tq_s_iload_n (kk := 2) (by decide +kernel) rfl ?_
    refine tq_s_iadd (by decide +kernel) ?_
    refine tq_s_aload_n (kk := 0) (by decide +kernel) rfl ?_
    refine fg_12_104_51 rfl (by decide +kernel) ?_
    refine tq_s_iload (i := 10) (by decide +kernel) rfl ?_
    refine tq_s_iload_n (kk := 2) (by decide +kernel) rfl ?_
    refine tq_s_iadd (by decide +kernel) ?_
    refine tq_s_lald (by decide +kernel) sh_79 h.1 ?_
    replace h := h.2
    refine tq_s_ldc2 (i := 412) (v := (2147483647 : Int64)) (by decide +kernel) (by decide +kernel) ?_
    refine tq_s_lload (i := 8) (by decide +kernel) rfl ?_
    refine tq_s_lsub (by decide +kernel) ?_
    refine tq_s_aload_n (kk := 0) (by decide +kernel) rfl ?_
    refine fg_12_107_51 rfl (by decide +kernel) ?_
    refine tq_s_iload (i := 10) (by decide +kernel) rfl ?_
    refine tq_s_lald (by decide +kernel) sh_80 h.1 ?_
    replace h := h.2
    refine tq_s_lmul (by decide +kernel) ?_
    refine tq_s_ladd (by decide +kernel) ?_
    refine tq_s_ldc2 (i := 412) (v := (2147483647 : Int64)) (by decide +kernel) (by decide +kernel) ?_
    refine tq_s_lrem (by decide +kernel) (by decide +kernel) ?_
    refine tq_g_last (by decide +kernel) sh_79 h.1 (fun z101 ez101 => ?_)
    replace h := h.2 z101 ez101
    refine tq_g_iinc (i := 10) (fun v102 => [.ref 51, .null, .int a2, .long a3, .null, .int a5, .long a6, .null, .long a8, .null, .int v102]) (by decide +kernel) rfl (1 : Int32) kc_1 (fun _ => rfl) (fun v102 ev102 => ?_)
    replace h := h v102 ev102
    refine tq_s_goto (off := -49) (tgt := 181) (by decide +kernel) (by decide +kernel) ?_
    exact hB181 _ _ h
theorem ac_X12_tellRule_181 {K : Nat × (Nat → Int32)} {x : Nat} {Q : tq_O → tq_S → Prop} {B58 : Int32 → Int64 → Int32 → tq_S → Prop} {a2 : Int32} {a3 : Int64} {a5 : Int32} {a6 : Int64} {a8 : Int64} {a10 : Int32} {z : tq_S} (hB58 : ∀ (b2 : Int32) (b3 : Int64) (b5 : Int32) (z : tq_S), B58 b2 b3 b5 z → tq_T K 42 x mm_X12_tellRule 58 [.ref 51, .null, .int b2, .long b3, .null, .int b5, .null, .null, .null, .null, .null] [] z Q) (h : wc_X12_tellRule_181 B58 Q a2 a3 a5 a6 a8 a10 z) : tq_T K 42 x mm_X12_tellRule 181 [.ref 51, .null, .int a2, .long a3, .null, .int a5, .long a6, .null, .long a8, .null, .int a10] [] z Q :=
  tq_lp_T (σ := Int32 × tq_S) (s := (a10, z)) (G := fun s => tq_T K 42 x mm_X12_tellRule 181 [.ref 51, .null, .int a2, .long a3, .null, .int a5, .long a6, .null, .long a8, .null, .int s.1] [] s.2 Q) (fun B hB s h => ab_X12_tellRule_181 hB58 (fun b10 z h => hB (b10, z) h) h) h
def wc_X12_tellRule_178 (B58 : Int32 → Int64 → Int32 → tq_S → Prop) (Q : tq_O → tq_S → Prop) (a2 : Int32) (a3 : Int64) (a5 : Int32) (a6 : Int64) (a8 : Int64) (z : tq_S) : Prop := wc_X12_tellRule_181 B58 Q a2 a3 a5 a6 a8 (0 : Int32) z
theorem ac_X12_tellRule_178 {K : Nat × (Nat → Int32)} {x : Nat} {Q : tq_O → tq_S → Prop} {B58 : Int32 → Int64 → Int32 → tq_S → Prop} {a2 : Int32} {a3 : Int64} {a5 : Int32} {a6 : Int64} {a8 : Int64} {z : tq_S} (hB58 : ∀ (b2 : Int32) (b3 : Int64) (b5 : Int32) (z : tq_S), B58 b2 b3 b5 z → tq_T K 42 x mm_X12_tellRule 58 [.ref 51, .null, .int b2, .long b3, .null, .int b5, .null, .null, .null, .null, .null] [] z Q) (h : wc_X12_tellRule_178 B58 Q a2 a3 a5 a6 a8 z) : tq_T K 42 x mm_X12_tellRule 178 [.ref 51, .null, .int a2, .long a3, .null, .int a5, .long a6, .null, .long a8, .null, .null] [] z Q := by
  unfold wc_X12_tellRule_178 at h
  refine tq_k_ic (n := 0) (v := (0 : Int32)) (by decide +kernel) kc_0 ?_
  refine tq_s_istore (i := 10) (L9 := [.ref 51, .null, .int a2, .long a3, .null, .int a5, .long a6, .null, .long a8, .null, .int (0 : Int32)]) (by decide +kernel) (by decide) rfl ?_
  exact ac_X12_tellRule_181 hB58 h
def wb_X12_tellRule_151 (B58 : Int32 → Int64 → Int32 → tq_S → Prop) (B151 : Int32 → tq_S → Prop) (Q : tq_O → tq_S → Prop) (a2 : Int32) (a3 : Int64) (a5 : Int32) (a6 : Int64) (a8 : Int64) (a10 : Int32) (z : tq_S) : Prop := (((48 : Int32) ≤ a10 → wc_X12_tellRule_178 B58 Q a2 a3 a5 a6 a8 z) ∧ (¬ (48 : Int32) ≤ a10 → vp_in a10 48 ∧ vp_in a10 48 ∧ ∀ z101 : tq_S, z101 = tq_sal z 81 (vp_updL (tq_al z 81) (Int32.toNatClampNeg a10) (tq_al z 79 (Int32.toNatClampNeg a10))) → ∀ v102 : Int32, v102 = a10 + (1 : Int32) → B151 v102 z101))
def wc_X12_tellRule_151 (B58 : Int32 → Int64 → Int32 → tq_S → Prop) (Q : tq_O → tq_S → Prop) (a2 : Int32) (a3 : Int64) (a5 : Int32) (a6 : Int64) (a8 : Int64) (a10 : Int32) (z : tq_S) : Prop := tq_lp (σ := Int32 × tq_S) (fun B s => wb_X12_tellRule_151 B58 (fun b10 z => B (b10, z)) Q a2 a3 a5 a6 a8 s.1 s.2) (a10, z)
theorem ab_X12_tellRule_151 {K : Nat × (Nat → Int32)} {x : Nat} {Q : tq_O → tq_S → Prop} {B58 : Int32 → Int64 → Int32 → tq_S → Prop} {B151 : Int32 → tq_S → Prop} {a2 : Int32} {a3 : Int64} {a5 : Int32} {a6 : Int64} {a8 : Int64} {a10 : Int32} {z : tq_S} (hB58 : ∀ (b2 : Int32) (b3 : Int64) (b5 : Int32) (z : tq_S), B58 b2 b3 b5 z → tq_T K 42 x mm_X12_tellRule 58 [.ref 51, .null, .int b2, .long b3, .null, .int b5, .null, .null, .null, .null, .null] [] z Q) (hB151 : ∀ (b10 : Int32) (z : tq_S), B151 b10 z → tq_T K 42 x mm_X12_tellRule 151 [.ref 51, .null, .int a2, .long a3, .null, .int a5, .long a6, .null, .long a8, .null, .int b10] [] z Q) (h : wb_X12_tellRule_151 B58 B151 Q a2 a3 a5 a6 a8 a10 z) : tq_T K 42 x mm_X12_tellRule 151 [.ref 51, .null, .int a2, .long a3, .null, .int a5, .long a6, .null, .long a8, .null, .int a10] [] z Q := by
  unfold wb_X12_tellRule_151 at h
  refine tq_s_iload (i := 10) (by decide +kernel) rfl ?_
  refine tq_k_bi (n := 48) (v := (48 : Int32)) (by decide +kernel) kb_48 ?_
  refine tq_icmp_ge (off := 23) (tgt := 178) (by decide +kernel) (by decide +kernel) (fun hc => ?_) (fun hc => ?_)
  · replace h := h.1 hc
    exact tq_to (tq_lk1 (tq_lk1 (tq_lk1 (tq_lk1 (tq_lk1 (tq_lk1 (tq_lk1 (tq_lk1 (tq_lk1 (tq_lk1 (tq_ld1 tq_l0))))))))))) (ac_X12_tellRule_178 hB58 h)
  · replace h := h.2 hc
    refine tq_s_aload_n (kk := 0) (by decide +kernel) rfl ?_
    refine fg_12_110_51 rfl (by decide +kernel) ?_
    refine tq_s_iload (i := 10) (by decide +kernel) rfl ?_
    refine tq_s_aload_n (kk := 0) (by decide +kernel) rfl ?_
    refine fg_12_104_51 rfl (by decide +kernel) ?_
    refine tq_s_iload (i := 10) (by decide +kernel) rfl ?_
    refine tq_s_lald (by decide +kernel) sh_79 h.1 ?_
    replace h := h.2
    refine tq_g_last (by decide +kernel) sh_81 h.1 (fun z101 ez101 => ?_)
    replace h := h.2 z101 ez101
    refine tq_g_iinc (i := 10) (fun v102 => [.ref 51, .null, .int a2, .long a3, .null, .int a5, .long a6, .null, .long a8, .null, .int v102]) (by decide +kernel) rfl (1 : Int32) kc_1 (fun _ => rfl) (fun v102 ev102 => ?_)
    replace h := h v102 ev102
    refine tq_s_goto (off := -24) (tgt := 151) (by decide +kernel) (by decide +kernel) ?_
    exact hB151 _ _ h
theorem ac_X12_tellRule_151 {K : Nat × (Nat → Int32)} {x : Nat} {Q : tq_O → tq_S → Prop} {B58 : Int32 → Int64 → Int32 → tq_S → Prop} {a2 : Int32} {a3 : Int64} {a5 : Int32} {a6 : Int64} {a8 : Int64} {a10 : Int32} {z : tq_S} (hB58 : ∀ (b2 : Int32) (b3 : Int64) (b5 : Int32) (z : tq_S), B58 b2 b3 b5 z → tq_T K 42 x mm_X12_tellRule 58 [.ref 51, .null, .int b2, .long b3, .null, .int b5, .null, .null, .null, .null, .null] [] z Q) (h : wc_X12_tellRule_151 B58 Q a2 a3 a5 a6 a8 a10 z) : tq_T K 42 x mm_X12_tellRule 151 [.ref 51, .null, .int a2, .long a3, .null, .int a5, .long a6, .null, .long a8, .null, .int a10] [] z Q :=
  tq_lp_T (σ := Int32 × tq_S) (s := (a10, z)) (G := fun s => tq_T K 42 x mm_X12_tellRule 151 [.ref 51, .null, .int a2, .long a3, .null, .int a5, .long a6, .null, .long a8, .null, .int s.1] [] s.2 Q) (fun B hB s h => ab_X12_tellRule_151 hB58 (fun b10 z h => hB (b10, z) h) h) h
def wc_X12_tellRule_119 (B58 : Int32 → Int64 → Int32 → tq_S → Prop) (Q : tq_O → tq_S → Prop) (a2 : Int32) (a3 : Int64) (a5 : Int32) (a6 : Int64) (z : tq_S) : Prop := ((¬ a6 = (0 : Int64) → wm_X12_power a3 (2147483645 : Int64) z (tq_wl fun r102 z101 => ∀ v103 : Int64, v103 = ((a6 * r102) - (a6 * r102) / (2147483647 : Int64) * (2147483647 : Int64)) → wc_X12_tellRule_151 B58 Q a2 a3 a5 a6 v103 (0 : Int32) z101)) ∧ (a6 = (0 : Int64) → ∀ v104 : Int32, v104 = a2 + (1 : Int32) → wc_X12_tellRule_298 B58 Q v104 a3 a5 z))
theorem ac_X12_tellRule_119 {K : Nat × (Nat → Int32)} {x : Nat} {Q : tq_O → tq_S → Prop} {B58 : Int32 → Int64 → Int32 → tq_S → Prop} {a2 : Int32} {a3 : Int64} {a5 : Int32} {a6 : Int64} {z : tq_S} (hB58 : ∀ (b2 : Int32) (b3 : Int64) (b5 : Int32) (z : tq_S), B58 b2 b3 b5 z → tq_T K 42 x mm_X12_tellRule 58 [.ref 51, .null, .int b2, .long b3, .null, .int b5, .null, .null, .null, .null, .null] [] z Q) (h : wc_X12_tellRule_119 B58 Q a2 a3 a5 a6 z) : tq_T K 42 x mm_X12_tellRule 119 [.ref 51, .null, .int a2, .long a3, .null, .int a5, .long a6, .null, .null, .null, .null] [] z Q := by
  unfold wc_X12_tellRule_119 at h
  refine tq_s_lload (i := 6) (by decide +kernel) rfl ?_
  refine tq_k_lc (n := 0) (v := (0 : Int64)) (by decide +kernel) (by decide +kernel) ?_
  refine tq_lcmp_ne (off := 9) (tgt := 132) (by decide +kernel) (by decide +kernel) (by decide +kernel) (fun hc => ?_) (fun hc => ?_)
  · replace h := h.1 hc
    refine tq_s_lload (i := 6) (by decide +kernel) rfl ?_
    refine tq_s_lload_n (kk := 3) (by decide +kernel) rfl ?_
    refine tq_s_ldc2 (i := 420) (v := (2147483645 : Int64)) (by decide +kernel) (by decide +kernel) ?_
    refine tq_callS (as := [.long a3, .long (2147483645 : Int64)]) (st := [.long a6]) (d1 := 0) (x1 := 0) (x2 := x) (by decide +kernel) ln_12_422 mf_X12_power rfl (by decide) np_X12_power rfl (Nat.le_of_ble_eq_true rfl) (by decide) (Nat.zero_add _).symm (tq_M_mono (am_X12_power h) ?_)
    refine tq_wl_e (fun r102 z101 h => ?_)
    refine tq_s_lmul (by decide +kernel) ?_
    refine tq_s_ldc2 (i := 412) (v := (2147483647 : Int64)) (by decide +kernel) (by decide +kernel) ?_
    refine tq_s_lrem (by decide +kernel) (by decide +kernel) ?_
    refine tq_g_lstore (i := 8) (fun v103 => [.ref 51, .null, .int a2, .long a3, .null, .int a5, .long a6, .null, .long v103, .null, .null]) (by decide +kernel) (by decide) (fun _ => rfl) (fun v103 ev103 => ?_)
    replace h := h v103 ev103
    refine tq_k_ic (n := 0) (v := (0 : Int32)) (by decide +kernel) kc_0 ?_
    refine tq_s_istore (i := 10) (L9 := [.ref 51, .null, .int a2, .long a3, .null, .int a5, .long a6, .null, .long v103, .null, .int (0 : Int32)]) (by decide +kernel) (by decide) rfl ?_
    exact ac_X12_tellRule_151 hB58 h
  · replace h := h.2 hc
    refine tq_g_iinc (i := 2) (fun v104 => [.ref 51, .null, .int v104, .long a3, .null, .int a5, .long a6, .null, .null, .null, .null]) (by decide +kernel) rfl (1 : Int32) kc_1 (fun _ => rfl) (fun v104 ev104 => ?_)
    replace h := h v104 ev104
    refine tq_s_goto (off := 169) (tgt := 298) (by decide +kernel) (by decide +kernel) ?_
    exact tq_to (tq_lk1 (tq_lk1 (tq_lk1 (tq_lk1 (tq_lk1 (tq_lk1 (tq_ld1 (tq_lk1 (tq_lk1 (tq_lk1 (tq_lk1 tq_l0))))))))))) (ac_X12_tellRule_298 hB58 h)
def wb_X12_tellRule_77 (B58 : Int32 → Int64 → Int32 → tq_S → Prop) (B77 : Int64 → Int32 → tq_S → Prop) (Q : tq_O → tq_S → Prop) (a2 : Int32) (a3 : Int64) (a5 : Int32) (a6 : Int64) (a8 : Int32) (z : tq_S) : Prop := (((tq_fi z 3313) < a8 → wc_X12_tellRule_119 B58 Q a2 a3 a5 a6 z) ∧ (¬ (tq_fi z 3313) < a8 → vp_in a8 48 ∧ vp_in (a5 - a8) 48 ∧ ∀ v101 : Int64, v101 = ((a6 + ((tq_al z 79 (Int32.toNatClampNeg a8)) * (tq_al z 78 (Int32.toNatClampNeg (a5 - a8))))) - (a6 + ((tq_al z 79 (Int32.toNatClampNeg a8)) * (tq_al z 78 (Int32.toNatClampNeg (a5 - a8))))) / (2147483647 : Int64) * (2147483647 : Int64)) → ∀ v102 : Int32, v102 = a8 + (1 : Int32) → B77 v101 v102 z))
def wc_X12_tellRule_77 (B58 : Int32 → Int64 → Int32 → tq_S → Prop) (Q : tq_O → tq_S → Prop) (a2 : Int32) (a3 : Int64) (a5 : Int32) (a6 : Int64) (a8 : Int32) (z : tq_S) : Prop := tq_lp (σ := Int64 × Int32 × tq_S) (fun B s => wb_X12_tellRule_77 B58 (fun b6 b8 z => B (b6, b8, z)) Q a2 a3 a5 s.1 s.2.1 s.2.2) (a6, a8, z)
theorem ab_X12_tellRule_77 {K : Nat × (Nat → Int32)} {x : Nat} {Q : tq_O → tq_S → Prop} {B58 : Int32 → Int64 → Int32 → tq_S → Prop} {B77 : Int64 → Int32 → tq_S → Prop} {a2 : Int32} {a3 : Int64} {a5 : Int32} {a6 : Int64} {a8 : Int32} {z : tq_S} (hB58 : ∀ (b2 : Int32) (b3 : Int64) (b5 : Int32) (z : tq_S), B58 b2 b3 b5 z → tq_T K 42 x mm_X12_tellRule 58 [.ref 51, .null, .int b2, .long b3, .null, .int b5, .null, .null, .null, .null, .null] [] z Q) (hB77 : ∀ (b6 : Int64) (b8 : Int32) (z : tq_S), B77 b6 b8 z → tq_T K 42 x mm_X12_tellRule 77 [.ref 51, .null, .int a2, .long a3, .null, .int a5, .long b6, .null, .int b8, .null, .null] [] z Q) (h : wb_X12_tellRule_77 B58 B77 Q a2 a3 a5 a6 a8 z) : tq_T K 42 x mm_X12_tellRule 77 [.ref 51, .null, .int a2, .long a3, .null, .int a5, .long a6, .null, .int a8, .null, .null] [] z Q := by
  unfold wb_X12_tellRule_77 at h
  refine tq_s_iload (i := 8) (by decide +kernel) rfl ?_
  refine tq_s_aload_n (kk := 0) (by decide +kernel) rfl ?_
  refine fg_12_417_51 rfl (by decide +kernel) ?_
  refine tq_icmp_gt (off := 36) (tgt := 119) (by decide +kernel) (by decide +kernel) (fun hc => ?_) (fun hc => ?_)
  · replace h := h.1 hc
    exact tq_to (tq_lk1 (tq_lk1 (tq_lk1 (tq_lk1 (tq_lk1 (tq_lk1 (tq_lk1 (tq_lk1 (tq_ld1 (tq_lk1 (tq_lk1 tq_l0))))))))))) (ac_X12_tellRule_119 hB58 h)
  · replace h := h.2 hc
    refine tq_s_lload (i := 6) (by decide +kernel) rfl ?_
    refine tq_s_aload_n (kk := 0) (by decide +kernel) rfl ?_
    refine fg_12_104_51 rfl (by decide +kernel) ?_
    refine tq_s_iload (i := 8) (by decide +kernel) rfl ?_
    refine tq_s_lald (by decide +kernel) sh_79 h.1 ?_
    replace h := h.2
    refine tq_s_aload_n (kk := 0) (by decide +kernel) rfl ?_
    refine fg_12_101_51 rfl (by decide +kernel) ?_
    refine tq_s_iload (i := 5) (by decide +kernel) rfl ?_
    refine tq_s_iload (i := 8) (by decide +kernel) rfl ?_
    refine tq_s_isub (by decide +kernel) ?_
    refine tq_s_lald (by decide +kernel) sh_78 h.1 ?_
    replace h := h.2
    refine tq_s_lmul (by decide +kernel) ?_
    refine tq_s_ladd (by decide +kernel) ?_
    refine tq_s_ldc2 (i := 412) (v := (2147483647 : Int64)) (by decide +kernel) (by decide +kernel) ?_
    refine tq_s_lrem (by decide +kernel) (by decide +kernel) ?_
    refine tq_g_lstore (i := 6) (fun v101 => [.ref 51, .null, .int a2, .long a3, .null, .int a5, .long v101, .null, .int a8, .null, .null]) (by decide +kernel) (by decide) (fun _ => rfl) (fun v101 ev101 => ?_)
    replace h := h v101 ev101
    refine tq_g_iinc (i := 8) (fun v102 => [.ref 51, .null, .int a2, .long a3, .null, .int a5, .long v101, .null, .int v102, .null, .null]) (by decide +kernel) rfl (1 : Int32) kc_1 (fun _ => rfl) (fun v102 ev102 => ?_)
    replace h := h v102 ev102
    refine tq_s_goto (off := -39) (tgt := 77) (by decide +kernel) (by decide +kernel) ?_
    exact hB77 _ _ _ h
theorem ac_X12_tellRule_77 {K : Nat × (Nat → Int32)} {x : Nat} {Q : tq_O → tq_S → Prop} {B58 : Int32 → Int64 → Int32 → tq_S → Prop} {a2 : Int32} {a3 : Int64} {a5 : Int32} {a6 : Int64} {a8 : Int32} {z : tq_S} (hB58 : ∀ (b2 : Int32) (b3 : Int64) (b5 : Int32) (z : tq_S), B58 b2 b3 b5 z → tq_T K 42 x mm_X12_tellRule 58 [.ref 51, .null, .int b2, .long b3, .null, .int b5, .null, .null, .null, .null, .null] [] z Q) (h : wc_X12_tellRule_77 B58 Q a2 a3 a5 a6 a8 z) : tq_T K 42 x mm_X12_tellRule 77 [.ref 51, .null, .int a2, .long a3, .null, .int a5, .long a6, .null, .int a8, .null, .null] [] z Q :=
  tq_lp_T (σ := Int64 × Int32 × tq_S) (s := (a6, a8, z)) (G := fun s => tq_T K 42 x mm_X12_tellRule 77 [.ref 51, .null, .int a2, .long a3, .null, .int a5, .long s.1, .null, .int s.2.1, .null, .null] [] s.2.2 Q) (fun B hB s h => ab_X12_tellRule_77 hB58 (fun b6 b8 z h => hB (b6, b8, z) h) h) h
def wb_X12_tellRule_58 (B58 : Int32 → Int64 → Int32 → tq_S → Prop) (Q : tq_O → tq_S → Prop) (a2 : Int32) (a3 : Int64) (a5 : Int32) (z : tq_S) : Prop := (((48 : Int32) ≤ a5 → Q (.inl none) z) ∧ (¬ (48 : Int32) ≤ a5 → vp_in a5 48 ∧ ∀ v101 : Int64, v101 = (tq_al z 78 (Int32.toNatClampNeg a5)) → wc_X12_tellRule_77 B58 Q a2 a3 a5 v101 (1 : Int32) z))
def wc_X12_tellRule_58 (Q : tq_O → tq_S → Prop) (a2 : Int32) (a3 : Int64) (a5 : Int32) (z : tq_S) : Prop := tq_lp (σ := Int32 × Int64 × Int32 × tq_S) (fun B s => wb_X12_tellRule_58 (fun b2 b3 b5 z => B (b2, b3, b5, z)) Q s.1 s.2.1 s.2.2.1 s.2.2.2) (a2, a3, a5, z)
theorem ab_X12_tellRule_58 {K : Nat × (Nat → Int32)} {x : Nat} {Q : tq_O → tq_S → Prop} {B58 : Int32 → Int64 → Int32 → tq_S → Prop} {a2 : Int32} {a3 : Int64} {a5 : Int32} {z : tq_S} (hB58 : ∀ (b2 : Int32) (b3 : Int64) (b5 : Int32) (z : tq_S), B58 b2 b3 b5 z → tq_T K 42 x mm_X12_tellRule 58 [.ref 51, .null, .int b2, .long b3, .null, .int b5, .null, .null, .null, .null, .null] [] z Q) (h : wb_X12_tellRule_58 B58 Q a2 a3 a5 z) : tq_T K 42 x mm_X12_tellRule 58 [.ref 51, .null, .int a2, .long a3, .null, .int a5, .null, .null, .null, .null, .null] [] z Q := by
  unfold wb_X12_tellRule_58 at h
  refine tq_s_iload (i := 5) (by decide +kernel) rfl ?_
  refine tq_k_bi (n := 48) (v := (48 : Int32)) (by decide +kernel) kb_48 ?_
  refine tq_icmp_ge (off := 242) (tgt := 304) (by decide +kernel) (by decide +kernel) (fun hc => ?_) (fun hc => ?_)
  · replace h := h.1 hc
    exact tq_ret_v (st := []) (by decide +kernel) rfl h
  · replace h := h.2 hc
    refine tq_s_aload_n (kk := 0) (by decide +kernel) rfl ?_
    refine fg_12_101_51 rfl (by decide +kernel) ?_
    refine tq_s_iload (i := 5) (by decide +kernel) rfl ?_
    refine tq_s_lald (by decide +kernel) sh_78 h.1 ?_
    replace h := h.2
    refine tq_g_lstore (i := 6) (fun v101 => [.ref 51, .null, .int a2, .long a3, .null, .int a5, .long v101, .null, .null, .null, .null]) (by decide +kernel) (by decide) (fun _ => rfl) (fun v101 ev101 => ?_)
    replace h := h v101 ev101
    refine tq_k_ic (n := 1) (v := (1 : Int32)) (by decide +kernel) kc_1 ?_
    refine tq_s_istore (i := 8) (L9 := [.ref 51, .null, .int a2, .long a3, .null, .int a5, .long v101, .null, .int (1 : Int32), .null, .null]) (by decide +kernel) (by decide) rfl ?_
    exact ac_X12_tellRule_77 hB58 h
theorem ac_X12_tellRule_58 {K : Nat × (Nat → Int32)} {x : Nat} {Q : tq_O → tq_S → Prop} {a2 : Int32} {a3 : Int64} {a5 : Int32} {z : tq_S} (h : wc_X12_tellRule_58 Q a2 a3 a5 z) : tq_T K 42 x mm_X12_tellRule 58 [.ref 51, .null, .int a2, .long a3, .null, .int a5, .null, .null, .null, .null, .null] [] z Q :=
  tq_lp_T (σ := Int32 × Int64 × Int32 × tq_S) (s := (a2, a3, a5, z)) (G := fun s => tq_T K 42 x mm_X12_tellRule 58 [.ref 51, .null, .int s.1, .long s.2.1, .null, .int s.2.2.1, .null, .null, .null, .null, .null] [] s.2.2.2 Q) (fun B hB s h => ab_X12_tellRule_58 (fun b2 b3 b5 z h => hB (b2, b3, b5, z) h) h) h
def wc_X12_tellRule_46 (Q : tq_O → tq_S → Prop)  (z : tq_S) : Prop := ∀ z101 : tq_S, z101 = tq_sfi z 3313 (0 : Int32) → wc_X12_tellRule_58 Q (1 : Int32) (1 : Int64) (0 : Int32) z101
theorem ac_X12_tellRule_46 {K : Nat × (Nat → Int32)} {x : Nat} {Q : tq_O → tq_S → Prop}  {z : tq_S} (h : wc_X12_tellRule_46 Q z) : tq_T K 42 x mm_X12_tellRule 46 [.ref 51, .null, .null, .null, .null, .null, .null, .null, .null, .null, .null] [] z Q := by
  unfold wc_X12_tellRule_46 at h
  refine tq_s_aload_n (kk := 0) (by decide +kernel) rfl ?_
  refine tq_k_ic (n := 0) (v := (0 : Int32)) (by decide +kernel) kc_0 ?_
  refine fp_12_417_51 rfl (by decide +kernel) (fun z101 ez101 => ?_)
  replace h := h z101 ez101
  refine tq_k_ic (n := 1) (v := (1 : Int32)) (by decide +kernel) kc_1 ?_
  refine tq_s_istore_n (kk := 2) (L9 := [.ref 51, .null, .int (1 : Int32), .null, .null, .null, .null, .null, .null, .null, .null]) (by decide +kernel) (by decide) rfl ?_
  refine tq_k_lc (n := 1) (v := (1 : Int64)) (by decide +kernel) (by decide +kernel) ?_
  refine tq_s_lstore_n (kk := 3) (L9 := [.ref 51, .null, .int (1 : Int32), .long (1 : Int64), .null, .null, .null, .null, .null, .null, .null]) (by decide +kernel) (by decide) rfl ?_
  refine tq_k_ic (n := 0) (v := (0 : Int32)) (by decide +kernel) kc_0 ?_
  refine tq_s_istore (i := 5) (L9 := [.ref 51, .null, .int (1 : Int32), .long (1 : Int64), .null, .int (0 : Int32), .null, .null, .null, .null, .null]) (by decide +kernel) (by decide) rfl ?_
  exact ac_X12_tellRule_58 h
def wb_X12_tellRule_7 (B7 : Int32 → tq_S → Prop) (Q : tq_O → tq_S → Prop) (a2 : Int32) (z : tq_S) : Prop := (((48 : Int32) ≤ a2 → wc_X12_tellRule_46 Q z) ∧ (¬ (48 : Int32) ≤ a2 → ((¬ a2 = 0 → wc_X12_tellRule_27 B7 Q a2 (0 : Int64) a2 z) ∧ (a2 = 0 → wc_X12_tellRule_27 B7 Q a2 (1 : Int64) a2 z))))
def wc_X12_tellRule_7 (Q : tq_O → tq_S → Prop) (a2 : Int32) (z : tq_S) : Prop := tq_lp (σ := Int32 × tq_S) (fun B s => wb_X12_tellRule_7 (fun b2 z => B (b2, z)) Q s.1 s.2) (a2, z)
theorem ab_X12_tellRule_7 {K : Nat × (Nat → Int32)} {x : Nat} {Q : tq_O → tq_S → Prop} {B7 : Int32 → tq_S → Prop} {a2 : Int32} {z : tq_S} (hB7 : ∀ (b2 : Int32) (z : tq_S), B7 b2 z → tq_T K 42 x mm_X12_tellRule 7 [.ref 51, .null, .int b2, .null, .null, .null, .null, .null, .null, .null, .null] [] z Q) (h : wb_X12_tellRule_7 B7 Q a2 z) : tq_T K 42 x mm_X12_tellRule 7 [.ref 51, .null, .int a2, .null, .null, .null, .null, .null, .null, .null, .null] [] z Q := by
  unfold wb_X12_tellRule_7 at h
  refine tq_s_iload_n (kk := 2) (by decide +kernel) rfl ?_
  refine tq_k_bi (n := 48) (v := (48 : Int32)) (by decide +kernel) kb_48 ?_
  refine tq_icmp_ge (off := 36) (tgt := 46) (by decide +kernel) (by decide +kernel) (fun hc => ?_) (fun hc => ?_)
  · replace h := h.1 hc
    exact tq_to (tq_lk1 (tq_lk1 (tq_ld1 (tq_lk1 (tq_lk1 (tq_lk1 (tq_lk1 (tq_lk1 (tq_lk1 (tq_lk1 (tq_lk1 tq_l0))))))))))) (ac_X12_tellRule_46 h)
  · replace h := h.2 hc
    refine tq_s_aload_n (kk := 0) (by decide +kernel) rfl ?_
    refine fg_12_104_51 rfl (by decide +kernel) ?_
    refine tq_s_iload_n (kk := 2) (by decide +kernel) rfl ?_
    refine tq_s_iload_n (kk := 2) (by decide +kernel) rfl ?_
    refine tq_if_ne (off := 7) (tgt := 26) (by decide +kernel) (by decide +kernel) (fun hc => ?_) (fun hc => ?_)
    · replace h := h.1 hc
      refine tq_k_lc (n := 0) (v := (0 : Int64)) (by decide +kernel) (by decide +kernel) ?_
      exact ac_X12_tellRule_27 hB7 h
    · replace h := h.2 hc
      refine tq_k_lc (n := 1) (v := (1 : Int64)) (by decide +kernel) (by decide +kernel) ?_
      refine tq_s_goto (off := 4) (tgt := 27) (by decide +kernel) (by decide +kernel) ?_
      exact ac_X12_tellRule_27 hB7 h
theorem ac_X12_tellRule_7 {K : Nat × (Nat → Int32)} {x : Nat} {Q : tq_O → tq_S → Prop} {a2 : Int32} {z : tq_S} (h : wc_X12_tellRule_7 Q a2 z) : tq_T K 42 x mm_X12_tellRule 7 [.ref 51, .null, .int a2, .null, .null, .null, .null, .null, .null, .null, .null] [] z Q :=
  tq_lp_T (σ := Int32 × tq_S) (s := (a2, z)) (G := fun s => tq_T K 42 x mm_X12_tellRule 7 [.ref 51, .null, .int s.1, .null, .null, .null, .null, .null, .null, .null, .null] [] s.2 Q) (fun B hB s h => ab_X12_tellRule_7 (fun b2 z h => hB (b2, z) h) h) h
def wm_X12_tellRule (a1 : Int32) (z : tq_S) (Q : tq_O → tq_S → Prop) : Prop := wm_X12_tellTerms a1 z (tq_wv fun z1 => wc_X12_tellRule_7 Q (0 : Int32) z1)
theorem am_X12_tellRule {K : Nat × (Nat → Int32)} {x : Nat} {z : tq_S} {Q : tq_O → tq_S → Prop} {a1 : Int32} (h : wm_X12_tellRule a1 z Q) : tq_M K 42 x mm_X12_tellRule [.ref 51, .int a1] z Q := by
  unfold wm_X12_tellRule at h
  refine tq_enter (L := [.ref 51, .int a1, .null, .null, .null, .null, .null, .null, .null, .null, .null]) mf_X12_tellRule.1 rfl rfl (Nat.le_of_ble_eq_true rfl) ?_
  refine tq_s_aload_n (kk := 0) (by decide +kernel) rfl ?_
  refine tq_s_iload_n (kk := 1) (by decide +kernel) rfl ?_
  refine tq_callV (as := [.int a1]) (st := []) (d1 := 41) (x1 := 0) (x2 := x) (by decide +kernel) ln_12_414 mf_X12_tellTerms rfl sh_51 rfl (by decide) np_X12_tellTerms rfl (Nat.le_of_ble_eq_true rfl) (by decide) (Nat.zero_add _).symm (tq_M_mono (am_X12_tellTerms h) ?_)
  refine tq_wv_e (fun z1 h => ?_)
  refine tq_k_ic (n := 0) (v := (0 : Int32)) (by decide +kernel) kc_0 ?_
  refine tq_s_istore_n (kk := 2) (L9 := [.ref 51, .int a1, .int (0 : Int32), .null, .null, .null, .null, .null, .null, .null, .null]) (by decide +kernel) (by decide) rfl ?_
  exact tq_to (tq_lk1 (tq_ld1 (tq_lk1 (tq_lk1 (tq_lk1 (tq_lk1 (tq_lk1 (tq_lk1 (tq_lk1 (tq_lk1 (tq_lk1 tq_l0))))))))))) (ac_X12_tellRule_7 h)
def wm_X12_ruleOf (a1 : Int32) (z : tq_S) (Q : tq_O → tq_S → Prop) : Prop := vp_in a1 48 ∧ ∀ v1 : Int64, v1 = (((2147483647 : Int64) - (tq_al z 79 (Int32.toNatClampNeg a1))) - ((2147483647 : Int64) - (tq_al z 79 (Int32.toNatClampNeg a1))) / (2147483647 : Int64) * (2147483647 : Int64)) → ((v1 ≤ (1073741823 : Int64) → Q (.inl (some (.long v1))) z) ∧ (¬ v1 ≤ (1073741823 : Int64) → Q (.inl (some (.long (v1 - (2147483647 : Int64))))) z))
theorem am_X12_ruleOf {K : Nat × (Nat → Int32)} {x : Nat} {z : tq_S} {Q : tq_O → tq_S → Prop} {a1 : Int32} (h : wm_X12_ruleOf a1 z Q) : tq_M K 0 x mm_X12_ruleOf [.ref 51, .int a1] z Q := by
  unfold wm_X12_ruleOf at h
  refine tq_enter (L := [.ref 51, .int a1, .null, .null]) mf_X12_ruleOf.1 rfl rfl (Nat.le_of_ble_eq_true rfl) ?_
  refine tq_s_ldc2 (i := 412) (v := (2147483647 : Int64)) (by decide +kernel) (by decide +kernel) ?_
  refine tq_s_aload_n (kk := 0) (by decide +kernel) rfl ?_
  refine fg_12_104_51 rfl (by decide +kernel) ?_
  refine tq_s_iload_n (kk := 1) (by decide +kernel) rfl ?_
  refine tq_s_lald (by decide +kernel) sh_79 h.1 ?_
  replace h := h.2
  refine tq_s_lsub (by decide +kernel) ?_
  refine tq_s_ldc2 (i := 412) (v := (2147483647 : Int64)) (by decide +kernel) (by decide +kernel) ?_
  refine tq_s_lrem (by decide +kernel) (by decide +kernel) ?_
  refine tq_g_lstore_n (kk := 2) (fun v1 => [.ref 51, .int a1, .long v1, .null]) (by decide +kernel) (by decide) (fun _ => rfl) (fun v1 ev1 => ?_)
  replace h := h v1 ev1
  refine tq_s_lload_n (kk := 2) (by decide +kernel) rfl ?_
  refine tq_s_ldc2 (i := 426) (v := (1073741823 : Int64)) (by decide +kernel) (by decide +kernel) ?_
  refine tq_lcmp_le (off := 11) (tgt := 31) (by decide +kernel) (by decide +kernel) (by decide +kernel) (fun hc => ?_) (fun hc => ?_)
  · replace h := h.1 hc
    refine tq_s_lload_n (kk := 2) (by decide +kernel) rfl ?_
    exact tq_ret_l (st := []) (by decide +kernel) rfl h
  · replace h := h.2 hc
    refine tq_s_lload_n (kk := 2) (by decide +kernel) rfl ?_
    refine tq_s_ldc2 (i := 412) (v := (2147483647 : Int64)) (by decide +kernel) (by decide +kernel) ?_
    refine tq_s_lsub (by decide +kernel) ?_
    refine tq_s_goto (off := 4) (tgt := 32) (by decide +kernel) (by decide +kernel) ?_
    exact tq_ret_l (st := []) (by decide +kernel) rfl h
def wc_X12_order_16 (Q : tq_O → tq_S → Prop) (a1 : Int32) (s0 : Int32) (z : tq_S) : Prop := wm_X12_isThrown s0 (1 : Int32) z (tq_wi fun r102 z101 => ((r102 = 0 → wm_X12_tellRule a1 z101 (tq_wv fun z103 => Q (.inl (some (.int (tq_fi z103 3313)))) z103)) ∧ (¬ r102 = 0 → Q (.inl (some (.int (0 : Int32)))) z101)))
theorem ac_X12_order_16 {K : Nat × (Nat → Int32)} {x : Nat} {Q : tq_O → tq_S → Prop} {a1 : Int32} {s0 : Int32} {z : tq_S} (h : wc_X12_order_16 Q a1 s0 z) : tq_T K 43 x mm_X12_order 16 [.ref 51, .int a1] [.int s0, .ref 51] z Q := by
  unfold wc_X12_order_16 at h
  refine tq_k_ic (n := 1) (v := (1 : Int32)) (by decide +kernel) kc_1 ?_
  refine tq_callV (as := [.int s0, .int (1 : Int32)]) (st := []) (d1 := 0) (x1 := 0) (x2 := x) (by decide +kernel) ln_12_152 mf_X12_isThrown rfl sh_51 rfl (by decide) np_X12_isThrown rfl (Nat.le_of_ble_eq_true rfl) (by decide) (Nat.zero_add _).symm (tq_M_mono (am_X12_isThrown h) ?_)
  refine tq_wi_e (fun r102 z101 h => ?_)
  refine tq_if_eq (off := 5) (tgt := 25) (by decide +kernel) (by decide +kernel) (fun hc => ?_) (fun hc => ?_)
  · replace h := h.1 hc
    refine tq_s_aload_n (kk := 0) (by decide +kernel) rfl ?_
    refine tq_s_iload_n (kk := 1) (by decide +kernel) rfl ?_
    refine tq_callV (as := [.int a1]) (st := []) (d1 := 42) (x1 := 0) (x2 := x) (by decide +kernel) ln_12_428 mf_X12_tellRule rfl sh_51 rfl (by decide) np_X12_tellRule rfl (Nat.le_of_ble_eq_true rfl) (by decide) (Nat.zero_add _).symm (tq_M_mono (am_X12_tellRule h) ?_)
    refine tq_wv_e (fun z103 h => ?_)
    refine tq_s_aload_n (kk := 0) (by decide +kernel) rfl ?_
    refine fg_12_417_51 rfl (by decide +kernel) ?_
    exact tq_ret_i (st := []) (by decide +kernel) rfl h
  · replace h := h.2 hc
    refine tq_k_ic (n := 0) (v := (0 : Int32)) (by decide +kernel) kc_0 ?_
    exact tq_ret_i (st := []) (by decide +kernel) rfl h
def wm_X12_order (a1 : Int32) (z : tq_S) (Q : tq_O → tq_S → Prop) : Prop := wm_X12_isIn a1 (1 : Int32) (6 : Int32) z (tq_wi fun r2 z1 => ((¬ r2 = 0 → wc_X12_order_16 Q a1 (0 : Int32) z1) ∧ (r2 = 0 → wc_X12_order_16 Q a1 (1 : Int32) z1)))
theorem am_X12_order {K : Nat × (Nat → Int32)} {x : Nat} {z : tq_S} {Q : tq_O → tq_S → Prop} {a1 : Int32} (h : wm_X12_order a1 z Q) : tq_M K 43 x mm_X12_order [.ref 51, .int a1] z Q := by
  unfold wm_X12_order at h
  refine tq_enter (L := [.ref 51, .int a1]) mf_X12_order.1 rfl rfl (Nat.le_of_ble_eq_true rfl) ?_
  refine tq_s_aload_n (kk := 0) (by decide +kernel) rfl ?_
  refine tq_s_iload_n (kk := 1) (by decide +kernel) rfl ?_
  refine tq_k_ic (n := 1) (v := (1 : Int32)) (by decide +kernel) kc_1 ?_
  refine tq_k_bi (n := 6) (v := (6 : Int32)) (by decide +kernel) kb_6 ?_
  refine tq_callS (as := [.int a1, .int (1 : Int32), .int (6 : Int32)]) (st := [.ref 51]) (d1 := 0) (x1 := 0) (x2 := x) (by decide +kernel) ln_12_148 mf_X12_isIn rfl (by decide) np_X12_isIn rfl (Nat.le_of_ble_eq_true rfl) (by decide) (Nat.zero_add _).symm (tq_M_mono (am_X12_isIn h) ?_)
  refine tq_wi_e (fun r2 z1 h => ?_)
  refine tq_if_ne (off := 7) (tgt := 15) (by decide +kernel) (by decide +kernel) (fun hc => ?_) (fun hc => ?_)
  · replace h := h.1 hc
    refine tq_k_ic (n := 0) (v := (0 : Int32)) (by decide +kernel) kc_0 ?_
    exact ac_X12_order_16 h
  · replace h := h.2 hc
    refine tq_k_ic (n := 1) (v := (1 : Int32)) (by decide +kernel) kc_1 ?_
    refine tq_s_goto (off := 4) (tgt := 16) (by decide +kernel) (by decide +kernel) ?_
    exact ac_X12_order_16 h
def wc_X12_rule_48 (Q : tq_O → tq_S → Prop) (a2 : Int32) (s0 : Int32) (z : tq_S) : Prop := wm_X12_isThrown s0 (2 : Int32) z (tq_wi fun r102 z101 => ((r102 = 0 → wm_X12_ruleOf a2 z101 (tq_wl fun r104 z103 => wm_X12_put r104 z103 (tq_wi fun r106 z105 => Q (.inl (some (.int r106))) z105))) ∧ (¬ r102 = 0 → Q (.inl (some (.int (0 : Int32)))) z101)))
theorem ac_X12_rule_48 {K : Nat × (Nat → Int32)} {x : Nat} {Q : tq_O → tq_S → Prop} {a2 : Int32} {s0 : Int32} {z : tq_S} (h : wc_X12_rule_48 Q a2 s0 z) : tq_T K 43 x mm_X12_rule 48 [.ref 51, .null, .int a2] [.int s0, .ref 51] z Q := by
  unfold wc_X12_rule_48 at h
  refine tq_k_ic (n := 2) (v := (2 : Int32)) (by decide +kernel) kc_2 ?_
  refine tq_callV (as := [.int s0, .int (2 : Int32)]) (st := []) (d1 := 0) (x1 := 0) (x2 := x) (by decide +kernel) ln_12_152 mf_X12_isThrown rfl sh_51 rfl (by decide) np_X12_isThrown rfl (Nat.le_of_ble_eq_true rfl) (by decide) (Nat.zero_add _).symm (tq_M_mono (am_X12_isThrown h) ?_)
  refine tq_wi_e (fun r102 z101 h => ?_)
  refine tq_if_eq (off := 7) (tgt := 59) (by decide +kernel) (by decide +kernel) (fun hc => ?_) (fun hc => ?_)
  · replace h := h.1 hc
    refine tq_s_aload_n (kk := 0) (by decide +kernel) rfl ?_
    refine tq_s_aload_n (kk := 0) (by decide +kernel) rfl ?_
    refine tq_s_iload_n (kk := 2) (by decide +kernel) rfl ?_
    refine tq_callV (as := [.int a2]) (st := [.ref 51]) (d1 := 0) (x1 := 0) (x2 := x) (by decide +kernel) ln_12_431 mf_X12_ruleOf rfl sh_51 rfl (by decide) np_X12_ruleOf rfl (Nat.le_of_ble_eq_true rfl) (by decide) (Nat.zero_add _).symm (tq_M_mono (am_X12_ruleOf h) ?_)
    refine tq_wl_e (fun r104 z103 h => ?_)
    refine tq_callV (as := [.long r104]) (st := []) (d1 := 41) (x1 := 0) (x2 := x) (by decide +kernel) ln_12_226 mf_X12_put rfl sh_51 rfl (by decide) np_X12_put rfl (Nat.le_of_ble_eq_true rfl) (by decide) (Nat.zero_add _).symm (tq_M_mono (am_X12_put h) ?_)
    refine tq_wi_e (fun r106 z105 h => ?_)
    exact tq_ret_i (st := []) (by decide +kernel) rfl h
  · replace h := h.2 hc
    refine tq_k_ic (n := 0) (v := (0 : Int32)) (by decide +kernel) kc_0 ?_
    refine tq_s_goto (off := 12) (tgt := 68) (by decide +kernel) (by decide +kernel) ?_
    exact tq_ret_i (st := []) (by decide +kernel) rfl h
def wc_X12_rule_16 (Q : tq_O → tq_S → Prop) (a1 : Int32) (a2 : Int32) (s0 : Int32) (z : tq_S) : Prop := wm_X12_isThrown s0 (1 : Int32) z (tq_wi fun r102 z101 => ((r102 = 0 → wm_X12_tellRule a1 z101 (tq_wv fun z103 => wm_X12_isIn a2 (1 : Int32) (tq_fi z103 3313) z103 (tq_wi fun r105 z104 => ((¬ r105 = 0 → wc_X12_rule_48 Q a2 (0 : Int32) z104) ∧ (r105 = 0 → wc_X12_rule_48 Q a2 (1 : Int32) z104))))) ∧ (¬ r102 = 0 → Q (.inl (some (.int (0 : Int32)))) z101)))
theorem ac_X12_rule_16 {K : Nat × (Nat → Int32)} {x : Nat} {Q : tq_O → tq_S → Prop} {a1 : Int32} {a2 : Int32} {s0 : Int32} {z : tq_S} (h : wc_X12_rule_16 Q a1 a2 s0 z) : tq_T K 43 x mm_X12_rule 16 [.ref 51, .int a1, .int a2] [.int s0, .ref 51] z Q := by
  unfold wc_X12_rule_16 at h
  refine tq_k_ic (n := 1) (v := (1 : Int32)) (by decide +kernel) kc_1 ?_
  refine tq_callV (as := [.int s0, .int (1 : Int32)]) (st := []) (d1 := 0) (x1 := 0) (x2 := x) (by decide +kernel) ln_12_152 mf_X12_isThrown rfl sh_51 rfl (by decide) np_X12_isThrown rfl (Nat.le_of_ble_eq_true rfl) (by decide) (Nat.zero_add _).symm (tq_M_mono (am_X12_isThrown h) ?_)
  refine tq_wi_e (fun r102 z101 h => ?_)
  refine tq_if_eq (off := 5) (tgt := 25) (by decide +kernel) (by decide +kernel) (fun hc => ?_) (fun hc => ?_)
  · replace h := h.1 hc
    refine tq_s_aload_n (kk := 0) (by decide +kernel) rfl ?_
    refine tq_s_iload_n (kk := 1) (by decide +kernel) rfl ?_
    refine tq_callV (as := [.int a1]) (st := []) (d1 := 42) (x1 := 0) (x2 := x) (by decide +kernel) ln_12_428 mf_X12_tellRule rfl sh_51 rfl (by decide) np_X12_tellRule rfl (Nat.le_of_ble_eq_true rfl) (by decide) (Nat.zero_add _).symm (tq_M_mono (am_X12_tellRule h) ?_)
    refine tq_wv_e (fun z103 h => ?_)
    refine tq_s_aload_n (kk := 0) (by decide +kernel) rfl ?_
    refine tq_s_iload_n (kk := 2) (by decide +kernel) rfl ?_
    refine tq_k_ic (n := 1) (v := (1 : Int32)) (by decide +kernel) kc_1 ?_
    refine tq_s_aload_n (kk := 0) (by decide +kernel) rfl ?_
    refine fg_12_417_51 rfl (by decide +kernel) ?_
    refine tq_callS (as := [.int a2, .int (1 : Int32), .int (tq_fi z103 3313)]) (st := [.ref 51]) (d1 := 0) (x1 := 0) (x2 := x) (by decide +kernel) ln_12_148 mf_X12_isIn rfl (by decide) np_X12_isIn rfl (Nat.le_of_ble_eq_true rfl) (by decide) (Nat.zero_add _).symm (tq_M_mono (am_X12_isIn h) ?_)
    refine tq_wi_e (fun r105 z104 h => ?_)
    refine tq_if_ne (off := 7) (tgt := 47) (by decide +kernel) (by decide +kernel) (fun hc => ?_) (fun hc => ?_)
    · replace h := h.1 hc
      refine tq_k_ic (n := 0) (v := (0 : Int32)) (by decide +kernel) kc_0 ?_
      exact tq_to (tq_lk1 (tq_ld1 (tq_lk1 tq_l0))) (ac_X12_rule_48 h)
    · replace h := h.2 hc
      refine tq_k_ic (n := 1) (v := (1 : Int32)) (by decide +kernel) kc_1 ?_
      refine tq_s_goto (off := 4) (tgt := 48) (by decide +kernel) (by decide +kernel) ?_
      exact tq_to (tq_lk1 (tq_ld1 (tq_lk1 tq_l0))) (ac_X12_rule_48 h)
  · replace h := h.2 hc
    refine tq_k_ic (n := 0) (v := (0 : Int32)) (by decide +kernel) kc_0 ?_
    exact tq_ret_i (st := []) (by decide +kernel) rfl h
def wm_X12_rule (a1 : Int32) (a2 : Int32) (z : tq_S) (Q : tq_O → tq_S → Prop) : Prop := wm_X12_isIn a1 (1 : Int32) (6 : Int32) z (tq_wi fun r2 z1 => ((¬ r2 = 0 → wc_X12_rule_16 Q a1 a2 (0 : Int32) z1) ∧ (r2 = 0 → wc_X12_rule_16 Q a1 a2 (1 : Int32) z1)))
theorem am_X12_rule {K : Nat × (Nat → Int32)} {x : Nat} {z : tq_S} {Q : tq_O → tq_S → Prop} {a1 : Int32} {a2 : Int32} (h : wm_X12_rule a1 a2 z Q) : tq_M K 43 x mm_X12_rule [.ref 51, .int a1, .int a2] z Q := by
  unfold wm_X12_rule at h
  refine tq_enter (L := [.ref 51, .int a1, .int a2]) mf_X12_rule.1 rfl rfl (Nat.le_of_ble_eq_true rfl) ?_
  refine tq_s_aload_n (kk := 0) (by decide +kernel) rfl ?_
  refine tq_s_iload_n (kk := 1) (by decide +kernel) rfl ?_
  refine tq_k_ic (n := 1) (v := (1 : Int32)) (by decide +kernel) kc_1 ?_
  refine tq_k_bi (n := 6) (v := (6 : Int32)) (by decide +kernel) kb_6 ?_
  refine tq_callS (as := [.int a1, .int (1 : Int32), .int (6 : Int32)]) (st := [.ref 51]) (d1 := 0) (x1 := 0) (x2 := x) (by decide +kernel) ln_12_148 mf_X12_isIn rfl (by decide) np_X12_isIn rfl (Nat.le_of_ble_eq_true rfl) (by decide) (Nat.zero_add _).symm (tq_M_mono (am_X12_isIn h) ?_)
  refine tq_wi_e (fun r2 z1 h => ?_)
  refine tq_if_ne (off := 7) (tgt := 15) (by decide +kernel) (by decide +kernel) (fun hc => ?_) (fun hc => ?_)
  · replace h := h.1 hc
    refine tq_k_ic (n := 0) (v := (0 : Int32)) (by decide +kernel) kc_0 ?_
    exact ac_X12_rule_16 h
  · replace h := h.2 hc
    refine tq_k_ic (n := 1) (v := (1 : Int32)) (by decide +kernel) kc_1 ?_
    refine tq_s_goto (off := 4) (tgt := 16) (by decide +kernel) (by decide +kernel) ?_
    exact ac_X12_rule_16 h
def wc_X12_carry_46 (B4 : Int64 → Int32 → tq_S → Prop) (Q : tq_O → tq_S → Prop) (a3 : Int32) (a4 : Int64) (s0 : Int64) (z : tq_S) : Prop := vp_in a3 40 ∧ ∀ z101 : tq_S, z101 = tq_sal z 83 (vp_updL (tq_al z 83) (Int32.toNatClampNeg a3) s0) → ∀ v102 : Int64, v102 = ((a4 - s0) / (1000000000 : Int64)) → ∀ v103 : Int32, v103 = a3 + (1 : Int32) → B4 v102 v103 z101
theorem ac_X12_carry_46 {K : Nat × (Nat → Int32)} {x : Nat} {Q : tq_O → tq_S → Prop} {B4 : Int64 → Int32 → tq_S → Prop} {a3 : Int32} {a4 : Int64} {s0 : Int64} {z : tq_S} (hB4 : ∀ (b1 : Int64) (b3 : Int32) (z : tq_S), B4 b1 b3 z → tq_T K 0 x mm_X12_carry 4 [.ref 51, .long b1, .null, .int b3, .null, .null, .null, .null] [] z Q) (h : wc_X12_carry_46 B4 Q a3 a4 s0 z) : tq_T K 0 x mm_X12_carry 46 [.ref 51, .null, .null, .int a3, .long a4, .null, .null, .null] [.long s0] z Q := by
  unfold wc_X12_carry_46 at h
  refine tq_s_lstore (i := 6) (L9 := [.ref 51, .null, .null, .int a3, .long a4, .null, .long s0, .null]) (by decide +kernel) (by decide) rfl ?_
  refine tq_s_aload_n (kk := 0) (by decide +kernel) rfl ?_
  refine fg_12_116_51 rfl (by decide +kernel) ?_
  refine tq_s_iload_n (kk := 3) (by decide +kernel) rfl ?_
  refine tq_s_lload (i := 6) (by decide +kernel) rfl ?_
  refine tq_g_last (by decide +kernel) sh_83 h.1 (fun z101 ez101 => ?_)
  replace h := h.2 z101 ez101
  refine tq_s_lload (i := 4) (by decide +kernel) rfl ?_
  refine tq_s_lload (i := 6) (by decide +kernel) rfl ?_
  refine tq_s_lsub (by decide +kernel) ?_
  refine tq_s_ldc2 (i := 435) (v := (1000000000 : Int64)) (by decide +kernel) (by decide +kernel) ?_
  refine tq_s_ldiv (by decide +kernel) (by decide +kernel) ?_
  refine tq_g_lstore_n (kk := 1) (fun v102 => [.ref 51, .long v102, .null, .int a3, .long a4, .null, .long s0, .null]) (by decide +kernel) (by decide) (fun _ => rfl) (fun v102 ev102 => ?_)
  replace h := h v102 ev102
  refine tq_g_iinc (i := 3) (fun v103 => [.ref 51, .long v102, .null, .int v103, .long a4, .null, .long s0, .null]) (by decide +kernel) rfl (1 : Int32) kc_1 (fun _ => rfl) (fun v103 ev103 => ?_)
  replace h := h v103 ev103
  refine tq_s_goto (off := -65) (tgt := 4) (by decide +kernel) (by decide +kernel) ?_
  exact tq_to (tq_lk1 (tq_lk1 (tq_lk1 (tq_lk1 (tq_ld1 (tq_lk1 (tq_ld1 (tq_lk1 tq_l0)))))))) (hB4 _ _ _ h)
def wb_X12_carry_4 (B4 : Int64 → Int32 → tq_S → Prop) (Q : tq_O → tq_S → Prop) (a1 : Int64) (a3 : Int32) (z : tq_S) : Prop := (((40 : Int32) ≤ a3 → Q (.inl none) z) ∧ (¬ (40 : Int32) ≤ a3 → vp_in a3 40 ∧ ∀ v101 : Int64, v101 = ((tq_al z 83 (Int32.toNatClampNeg a3)) + a1) → ∀ v102 : Int64, v102 = (v101 - v101 / (1000000000 : Int64) * (1000000000 : Int64)) → (((0 : Int64) ≤ v102 → wc_X12_carry_46 B4 Q a3 v101 v102 z) ∧ (¬ (0 : Int64) ≤ v102 → wc_X12_carry_46 B4 Q a3 v101 (v102 + (1000000000 : Int64)) z))))
def wc_X12_carry_4 (Q : tq_O → tq_S → Prop) (a1 : Int64) (a3 : Int32) (z : tq_S) : Prop := tq_lp (σ := Int64 × Int32 × tq_S) (fun B s => wb_X12_carry_4 (fun b1 b3 z => B (b1, b3, z)) Q s.1 s.2.1 s.2.2) (a1, a3, z)
theorem ab_X12_carry_4 {K : Nat × (Nat → Int32)} {x : Nat} {Q : tq_O → tq_S → Prop} {B4 : Int64 → Int32 → tq_S → Prop} {a1 : Int64} {a3 : Int32} {z : tq_S} (hB4 : ∀ (b1 : Int64) (b3 : Int32) (z : tq_S), B4 b1 b3 z → tq_T K 0 x mm_X12_carry 4 [.ref 51, .long b1, .null, .int b3, .null, .null, .null, .null] [] z Q) (h : wb_X12_carry_4 B4 Q a1 a3 z) : tq_T K 0 x mm_X12_carry 4 [.ref 51, .long a1, .null, .int a3, .null, .null, .null, .null] [] z Q := by
  unfold wb_X12_carry_4 at h
  refine tq_s_iload_n (kk := 3) (by decide +kernel) rfl ?_
  refine tq_k_bi (n := 40) (v := (40 : Int32)) (by decide +kernel) kb_40 ?_
  refine tq_icmp_ge (off := 65) (tgt := 72) (by decide +kernel) (by decide +kernel) (fun hc => ?_) (fun hc => ?_)
  · replace h := h.1 hc
    exact tq_ret_v (st := []) (by decide +kernel) rfl h
  · replace h := h.2 hc
    refine tq_s_aload_n (kk := 0) (by decide +kernel) rfl ?_
    refine fg_12_116_51 rfl (by decide +kernel) ?_
    refine tq_s_iload_n (kk := 3) (by decide +kernel) rfl ?_
    refine tq_s_lald (by decide +kernel) sh_83 h.1 ?_
    replace h := h.2
    refine tq_s_lload_n (kk := 1) (by decide +kernel) rfl ?_
    refine tq_s_ladd (by decide +kernel) ?_
    refine tq_g_lstore (i := 4) (fun v101 => [.ref 51, .long a1, .null, .int a3, .long v101, .null, .null, .null]) (by decide +kernel) (by decide) (fun _ => rfl) (fun v101 ev101 => ?_)
    replace h := h v101 ev101
    refine tq_s_lload (i := 4) (by decide +kernel) rfl ?_
    refine tq_s_ldc2 (i := 435) (v := (1000000000 : Int64)) (by decide +kernel) (by decide +kernel) ?_
    refine tq_s_lrem (by decide +kernel) (by decide +kernel) ?_
    refine tq_g_lstore (i := 6) (fun v102 => [.ref 51, .long a1, .null, .int a3, .long v101, .null, .long v102, .null]) (by decide +kernel) (by decide) (fun _ => rfl) (fun v102 ev102 => ?_)
    replace h := h v102 ev102
    refine tq_s_lload (i := 6) (by decide +kernel) rfl ?_
    refine tq_k_lc (n := 0) (v := (0 : Int64)) (by decide +kernel) (by decide +kernel) ?_
    refine tq_lcmp_ge (off := 12) (tgt := 44) (by decide +kernel) (by decide +kernel) (by decide +kernel) (fun hc => ?_) (fun hc => ?_)
    · replace h := h.1 hc
      refine tq_s_lload (i := 6) (by decide +kernel) rfl ?_
      exact tq_to (tq_lk1 (tq_ld1 (tq_lk1 (tq_lk1 (tq_lk1 (tq_lk1 (tq_ld1 (tq_lk1 tq_l0)))))))) (ac_X12_carry_46 hB4 h)
    · replace h := h.2 hc
      refine tq_s_lload (i := 6) (by decide +kernel) rfl ?_
      refine tq_s_ldc2 (i := 435) (v := (1000000000 : Int64)) (by decide +kernel) (by decide +kernel) ?_
      refine tq_s_ladd (by decide +kernel) ?_
      refine tq_s_goto (off := 5) (tgt := 46) (by decide +kernel) (by decide +kernel) ?_
      exact tq_to (tq_lk1 (tq_ld1 (tq_lk1 (tq_lk1 (tq_lk1 (tq_lk1 (tq_ld1 (tq_lk1 tq_l0)))))))) (ac_X12_carry_46 hB4 h)
theorem ac_X12_carry_4 {K : Nat × (Nat → Int32)} {x : Nat} {Q : tq_O → tq_S → Prop} {a1 : Int64} {a3 : Int32} {z : tq_S} (h : wc_X12_carry_4 Q a1 a3 z) : tq_T K 0 x mm_X12_carry 4 [.ref 51, .long a1, .null, .int a3, .null, .null, .null, .null] [] z Q :=
  tq_lp_T (σ := Int64 × Int32 × tq_S) (s := (a1, a3, z)) (G := fun s => tq_T K 0 x mm_X12_carry 4 [.ref 51, .long s.1, .null, .int s.2.1, .null, .null, .null, .null] [] s.2.2 Q) (fun B hB s h => ab_X12_carry_4 (fun b1 b3 z h => hB (b1, b3, z) h) h) h
def wm_X12_carry  (z : tq_S) (Q : tq_O → tq_S → Prop) : Prop := wc_X12_carry_4 Q (0 : Int64) (0 : Int32) z
theorem am_X12_carry {K : Nat × (Nat → Int32)} {x : Nat} {z : tq_S} {Q : tq_O → tq_S → Prop}  (h : wm_X12_carry z Q) : tq_M K 0 x mm_X12_carry [.ref 51] z Q := by
  unfold wm_X12_carry at h
  refine tq_enter (L := [.ref 51, .null, .null, .null, .null, .null, .null, .null]) mf_X12_carry.1 rfl rfl (Nat.le_of_ble_eq_true rfl) ?_
  refine tq_k_lc (n := 0) (v := (0 : Int64)) (by decide +kernel) (by decide +kernel) ?_
  refine tq_s_lstore_n (kk := 1) (L9 := [.ref 51, .long (0 : Int64), .null, .null, .null, .null, .null, .null]) (by decide +kernel) (by decide) rfl ?_
  refine tq_k_ic (n := 0) (v := (0 : Int32)) (by decide +kernel) kc_0 ?_
  refine tq_s_istore_n (kk := 3) (L9 := [.ref 51, .long (0 : Int64), .null, .int (0 : Int32), .null, .null, .null, .null]) (by decide +kernel) (by decide) rfl ?_
  exact ac_X12_carry_4 h
def wc_X12_putSum_86 (B43 : Int32 → tq_S → Prop) (Q : tq_O → tq_S → Prop) (a2 : Int32) (z : tq_S) : Prop := ∀ v101 : Int32, v101 = a2 + (-1 : Int32) → B43 v101 z
theorem ac_X12_putSum_86 {K : Nat × (Nat → Int32)} {x : Nat} {Q : tq_O → tq_S → Prop} {B43 : Int32 → tq_S → Prop} {a2 : Int32} {z : tq_S} (hB43 : ∀ (b2 : Int32) (z : tq_S), B43 b2 z → tq_T K 41 x mm_X12_putSum 43 [.ref 51, .null, .int b2, .null, .null] [] z Q) (h : wc_X12_putSum_86 B43 Q a2 z) : tq_T K 41 x mm_X12_putSum 86 [.ref 51, .null, .int a2, .null, .null] [] z Q := by
  unfold wc_X12_putSum_86 at h
  refine tq_g_iinc (i := 2) (fun v101 => [.ref 51, .null, .int v101, .null, .null]) (by decide +kernel) rfl (-1 : Int32) kc_m1 (fun _ => rfl) (fun v101 ev101 => ?_)
  replace h := h v101 ev101
  refine tq_s_goto (off := -46) (tgt := 43) (by decide +kernel) (by decide +kernel) ?_
  exact hB43 _ _ h
def wb_X12_putSum_51 (B43 : Int32 → tq_S → Prop) (B51 : Int64 → tq_S → Prop) (Q : tq_O → tq_S → Prop) (a2 : Int32) (a3 : Int64) (z : tq_S) : Prop := ((a3 ≤ (0 : Int64) → wc_X12_putSum_86 B43 Q a2 z) ∧ (¬ a3 ≤ (0 : Int64) → vp_in a2 40 ∧ (¬ a3 = 0) ∧ wm_X12_putSign ((48 : Int32) + (Int64.toInt32 (((tq_al z 83 (Int32.toNatClampNeg a2)) / a3) - ((tq_al z 83 (Int32.toNatClampNeg a2)) / a3) / (10 : Int64) * (10 : Int64)))) z (tq_wv fun z101 => ∀ v102 : Int64, v102 = (a3 / (10 : Int64)) → B51 v102 z101)))
def wc_X12_putSum_51 (B43 : Int32 → tq_S → Prop) (Q : tq_O → tq_S → Prop) (a2 : Int32) (a3 : Int64) (z : tq_S) : Prop := tq_lp (σ := Int64 × tq_S) (fun B s => wb_X12_putSum_51 B43 (fun b3 z => B (b3, z)) Q a2 s.1 s.2) (a3, z)
theorem ab_X12_putSum_51 {K : Nat × (Nat → Int32)} {x : Nat} {Q : tq_O → tq_S → Prop} {B43 : Int32 → tq_S → Prop} {B51 : Int64 → tq_S → Prop} {a2 : Int32} {a3 : Int64} {z : tq_S} (hB43 : ∀ (b2 : Int32) (z : tq_S), B43 b2 z → tq_T K 41 x mm_X12_putSum 43 [.ref 51, .null, .int b2, .null, .null] [] z Q) (hB51 : ∀ (b3 : Int64) (z : tq_S), B51 b3 z → tq_T K 41 x mm_X12_putSum 51 [.ref 51, .null, .int a2, .long b3, .null] [] z Q) (h : wb_X12_putSum_51 B43 B51 Q a2 a3 z) : tq_T K 41 x mm_X12_putSum 51 [.ref 51, .null, .int a2, .long a3, .null] [] z Q := by
  unfold wb_X12_putSum_51 at h
  refine tq_s_lload_n (kk := 3) (by decide +kernel) rfl ?_
  refine tq_k_lc (n := 0) (v := (0 : Int64)) (by decide +kernel) (by decide +kernel) ?_
  refine tq_lcmp_le (off := 32) (tgt := 86) (by decide +kernel) (by decide +kernel) (by decide +kernel) (fun hc => ?_) (fun hc => ?_)
  · replace h := h.1 hc
    exact tq_to (tq_lk1 (tq_lk1 (tq_lk1 (tq_ld1 (tq_lk1 tq_l0))))) (ac_X12_putSum_86 hB43 h)
  · replace h := h.2 hc
    refine tq_s_aload_n (kk := 0) (by decide +kernel) rfl ?_
    refine tq_k_bi (n := 48) (v := (48 : Int32)) (by decide +kernel) kb_48 ?_
    refine tq_s_aload_n (kk := 0) (by decide +kernel) rfl ?_
    refine fg_12_116_51 rfl (by decide +kernel) ?_
    refine tq_s_iload_n (kk := 2) (by decide +kernel) rfl ?_
    refine tq_s_lald (by decide +kernel) sh_83 h.1 ?_
    replace h := h.2
    refine tq_s_lload_n (kk := 3) (by decide +kernel) rfl ?_
    refine tq_s_ldiv (by decide +kernel) h.1 ?_
    replace h := h.2
    refine tq_s_ldc2 (i := 221) (v := (10 : Int64)) (by decide +kernel) (by decide +kernel) ?_
    refine tq_s_lrem (by decide +kernel) (by decide +kernel) ?_
    refine tq_s_l2i (by decide +kernel) ?_
    refine tq_s_iadd (by decide +kernel) ?_
    refine tq_callV (as := [.int ((48 : Int32) + (Int64.toInt32 (((tq_al z 83 (Int32.toNatClampNeg a2)) / a3) - ((tq_al z 83 (Int32.toNatClampNeg a2)) / a3) / (10 : Int64) * (10 : Int64))))]) (st := []) (d1 := 0) (x1 := 0) (x2 := x) (by decide +kernel) ln_12_216 mf_X12_putSign rfl sh_51 rfl (by decide) np_X12_putSign rfl (Nat.le_of_ble_eq_true rfl) (by decide) (Nat.zero_add _).symm (tq_M_mono (am_X12_putSign h) ?_)
    refine tq_wv_e (fun z101 h => ?_)
    refine tq_s_lload_n (kk := 3) (by decide +kernel) rfl ?_
    refine tq_s_ldc2 (i := 221) (v := (10 : Int64)) (by decide +kernel) (by decide +kernel) ?_
    refine tq_s_ldiv (by decide +kernel) (by decide +kernel) ?_
    refine tq_g_lstore_n (kk := 3) (fun v102 => [.ref 51, .null, .int a2, .long v102, .null]) (by decide +kernel) (by decide) (fun _ => rfl) (fun v102 ev102 => ?_)
    replace h := h v102 ev102
    refine tq_s_goto (off := -32) (tgt := 51) (by decide +kernel) (by decide +kernel) ?_
    exact hB51 _ _ h
theorem ac_X12_putSum_51 {K : Nat × (Nat → Int32)} {x : Nat} {Q : tq_O → tq_S → Prop} {B43 : Int32 → tq_S → Prop} {a2 : Int32} {a3 : Int64} {z : tq_S} (hB43 : ∀ (b2 : Int32) (z : tq_S), B43 b2 z → tq_T K 41 x mm_X12_putSum 43 [.ref 51, .null, .int b2, .null, .null] [] z Q) (h : wc_X12_putSum_51 B43 Q a2 a3 z) : tq_T K 41 x mm_X12_putSum 51 [.ref 51, .null, .int a2, .long a3, .null] [] z Q :=
  tq_lp_T (σ := Int64 × tq_S) (s := (a3, z)) (G := fun s => tq_T K 41 x mm_X12_putSum 51 [.ref 51, .null, .int a2, .long s.1, .null] [] s.2 Q) (fun B hB s h => ab_X12_putSum_51 hB43 (fun b3 z h => hB (b3, z) h) h) h
def wc_X12_putSum_92 (Q : tq_O → tq_S → Prop)  (z : tq_S) : Prop := Q (.inl (some (.int (tq_fi z 3279)))) z
theorem ac_X12_putSum_92 {K : Nat × (Nat → Int32)} {x : Nat} {Q : tq_O → tq_S → Prop}  {z : tq_S} (h : wc_X12_putSum_92 Q z) : tq_T K 41 x mm_X12_putSum 92 [.ref 51, .null, .null, .null, .null] [] z Q := by
  unfold wc_X12_putSum_92 at h
  refine tq_s_aload_n (kk := 0) (by decide +kernel) rfl ?_
  refine fg_12_209_51 rfl (by decide +kernel) ?_
  exact tq_ret_i (st := []) (by decide +kernel) rfl h
def wb_X12_putSum_43 (B43 : Int32 → tq_S → Prop) (Q : tq_O → tq_S → Prop) (a2 : Int32) (z : tq_S) : Prop := ((a2 < 0 → wc_X12_putSum_92 Q z) ∧ (¬ a2 < 0 → wc_X12_putSum_51 B43 Q a2 (100000000 : Int64) z))
def wc_X12_putSum_43 (Q : tq_O → tq_S → Prop) (a2 : Int32) (z : tq_S) : Prop := tq_lp (σ := Int32 × tq_S) (fun B s => wb_X12_putSum_43 (fun b2 z => B (b2, z)) Q s.1 s.2) (a2, z)
theorem ab_X12_putSum_43 {K : Nat × (Nat → Int32)} {x : Nat} {Q : tq_O → tq_S → Prop} {B43 : Int32 → tq_S → Prop} {a2 : Int32} {z : tq_S} (hB43 : ∀ (b2 : Int32) (z : tq_S), B43 b2 z → tq_T K 41 x mm_X12_putSum 43 [.ref 51, .null, .int b2, .null, .null] [] z Q) (h : wb_X12_putSum_43 B43 Q a2 z) : tq_T K 41 x mm_X12_putSum 43 [.ref 51, .null, .int a2, .null, .null] [] z Q := by
  unfold wb_X12_putSum_43 at h
  refine tq_s_iload_n (kk := 2) (by decide +kernel) rfl ?_
  refine tq_if_lt (off := 48) (tgt := 92) (by decide +kernel) (by decide +kernel) (fun hc => ?_) (fun hc => ?_)
  · replace h := h.1 hc
    exact tq_to (tq_lk1 (tq_lk1 (tq_ld1 (tq_lk1 (tq_lk1 tq_l0))))) (ac_X12_putSum_92 h)
  · replace h := h.2 hc
    refine tq_s_ldc2 (i := 443) (v := (100000000 : Int64)) (by decide +kernel) (by decide +kernel) ?_
    refine tq_s_lstore_n (kk := 3) (L9 := [.ref 51, .null, .int a2, .long (100000000 : Int64), .null]) (by decide +kernel) (by decide) rfl ?_
    exact ac_X12_putSum_51 hB43 h
theorem ac_X12_putSum_43 {K : Nat × (Nat → Int32)} {x : Nat} {Q : tq_O → tq_S → Prop} {a2 : Int32} {z : tq_S} (h : wc_X12_putSum_43 Q a2 z) : tq_T K 41 x mm_X12_putSum 43 [.ref 51, .null, .int a2, .null, .null] [] z Q :=
  tq_lp_T (σ := Int32 × tq_S) (s := (a2, z)) (G := fun s => tq_T K 41 x mm_X12_putSum 43 [.ref 51, .null, .int s.1, .null, .null] [] s.2 Q) (fun B hB s h => ab_X12_putSum_43 (fun b2 z h => hB (b2, z) h) h) h
def wc_X12_putSum_29 (Q : tq_O → tq_S → Prop) (a1 : Int32) (z : tq_S) : Prop := vp_in a1 40 ∧ wm_X12_putDigits 40 (tq_al z 83 (Int32.toNatClampNeg a1)) z (tq_wv fun z101 => ∀ v102 : Int32, v102 = (a1 - (1 : Int32)) → wc_X12_putSum_43 Q v102 z101)
theorem ac_X12_putSum_29 {K : Nat × (Nat → Int32)} {x : Nat} {Q : tq_O → tq_S → Prop} {a1 : Int32} {z : tq_S} (h : wc_X12_putSum_29 Q a1 z) : tq_T K 41 x mm_X12_putSum 29 [.ref 51, .int a1, .null, .null, .null] [] z Q := by
  unfold wc_X12_putSum_29 at h
  refine tq_s_aload_n (kk := 0) (by decide +kernel) rfl ?_
  refine tq_s_aload_n (kk := 0) (by decide +kernel) rfl ?_
  refine fg_12_116_51 rfl (by decide +kernel) ?_
  refine tq_s_iload_n (kk := 1) (by decide +kernel) rfl ?_
  refine tq_s_lald (by decide +kernel) sh_83 h.1 ?_
  replace h := h.2
  refine tq_callV (as := [.long (tq_al z 83 (Int32.toNatClampNeg a1))]) (st := []) (d1 := 40) (x1 := 0) (x2 := x) (by decide +kernel) ln_12_212 mf_X12_putDigits rfl sh_51 rfl (by decide) np_X12_putDigits rfl (Nat.le_of_ble_eq_true rfl) (by decide) (Nat.zero_add _).symm (tq_M_mono (am_X12_putDigits 40 h) ?_)
  refine tq_wv_e (fun z101 h => ?_)
  refine tq_s_iload_n (kk := 1) (by decide +kernel) rfl ?_
  refine tq_k_ic (n := 1) (v := (1 : Int32)) (by decide +kernel) kc_1 ?_
  refine tq_s_isub (by decide +kernel) ?_
  refine tq_g_istore_n (kk := 2) (fun v102 => [.ref 51, .int a1, .int v102, .null, .null]) (by decide +kernel) (by decide) (fun _ => rfl) (fun v102 ev102 => ?_)
  replace h := h v102 ev102
  exact tq_to (tq_lk1 (tq_ld1 (tq_lk1 (tq_lk1 (tq_lk1 tq_l0))))) (ac_X12_putSum_43 h)
def wb_X12_putSum_8 (B8 : Int32 → tq_S → Prop) (Q : tq_O → tq_S → Prop) (a1 : Int32) (z : tq_S) : Prop := ((a1 ≤ 0 → wc_X12_putSum_29 Q a1 z) ∧ (¬ a1 ≤ 0 → vp_in a1 40 ∧ ((¬ (tq_al z 83 (Int32.toNatClampNeg a1)) = (0 : Int64) → wc_X12_putSum_29 Q a1 z) ∧ ((tq_al z 83 (Int32.toNatClampNeg a1)) = (0 : Int64) → ∀ v101 : Int32, v101 = a1 + (-1 : Int32) → B8 v101 z))))
def wc_X12_putSum_8 (Q : tq_O → tq_S → Prop) (a1 : Int32) (z : tq_S) : Prop := tq_lp (σ := Int32 × tq_S) (fun B s => wb_X12_putSum_8 (fun b1 z => B (b1, z)) Q s.1 s.2) (a1, z)
theorem ab_X12_putSum_8 {K : Nat × (Nat → Int32)} {x : Nat} {Q : tq_O → tq_S → Prop} {B8 : Int32 → tq_S → Prop} {a1 : Int32} {z : tq_S} (hB8 : ∀ (b1 : Int32) (z : tq_S), B8 b1 z → tq_T K 41 x mm_X12_putSum 8 [.ref 51, .int b1, .null, .null, .null] [] z Q) (h : wb_X12_putSum_8 B8 Q a1 z) : tq_T K 41 x mm_X12_putSum 8 [.ref 51, .int a1, .null, .null, .null] [] z Q := by
  unfold wb_X12_putSum_8 at h
  refine tq_s_iload_n (kk := 1) (by decide +kernel) rfl ?_
  refine tq_if_le (off := 20) (tgt := 29) (by decide +kernel) (by decide +kernel) (fun hc => ?_) (fun hc => ?_)
  · replace h := h.1 hc
    exact ac_X12_putSum_29 h
  · replace h := h.2 hc
    refine tq_s_aload_n (kk := 0) (by decide +kernel) rfl ?_
    refine fg_12_116_51 rfl (by decide +kernel) ?_
    refine tq_s_iload_n (kk := 1) (by decide +kernel) rfl ?_
    refine tq_s_lald (by decide +kernel) sh_83 h.1 ?_
    replace h := h.2
    refine tq_k_lc (n := 0) (v := (0 : Int64)) (by decide +kernel) (by decide +kernel) ?_
    refine tq_lcmp_ne (off := 9) (tgt := 29) (by decide +kernel) (by decide +kernel) (by decide +kernel) (fun hc => ?_) (fun hc => ?_)
    · replace h := h.1 hc
      exact ac_X12_putSum_29 h
    · replace h := h.2 hc
      refine tq_g_iinc (i := 1) (fun v101 => [.ref 51, .int v101, .null, .null, .null]) (by decide +kernel) rfl (-1 : Int32) kc_m1 (fun _ => rfl) (fun v101 ev101 => ?_)
      replace h := h v101 ev101
      refine tq_s_goto (off := -18) (tgt := 8) (by decide +kernel) (by decide +kernel) ?_
      exact hB8 _ _ h
theorem ac_X12_putSum_8 {K : Nat × (Nat → Int32)} {x : Nat} {Q : tq_O → tq_S → Prop} {a1 : Int32} {z : tq_S} (h : wc_X12_putSum_8 Q a1 z) : tq_T K 41 x mm_X12_putSum 8 [.ref 51, .int a1, .null, .null, .null] [] z Q :=
  tq_lp_T (σ := Int32 × tq_S) (s := (a1, z)) (G := fun s => tq_T K 41 x mm_X12_putSum 8 [.ref 51, .int s.1, .null, .null, .null] [] s.2 Q) (fun B hB s h => ab_X12_putSum_8 (fun b1 z h => hB (b1, z) h) h) h
def wm_X12_putSum  (z : tq_S) (Q : tq_O → tq_S → Prop) : Prop := ∀ z1 : tq_S, z1 = tq_sfi z 3279 (0 : Int32) → wc_X12_putSum_8 Q (39 : Int32) z1
theorem am_X12_putSum {K : Nat × (Nat → Int32)} {x : Nat} {z : tq_S} {Q : tq_O → tq_S → Prop}  (h : wm_X12_putSum z Q) : tq_M K 41 x mm_X12_putSum [.ref 51] z Q := by
  unfold wm_X12_putSum at h
  refine tq_enter (L := [.ref 51, .null, .null, .null, .null]) mf_X12_putSum.1 rfl rfl (Nat.le_of_ble_eq_true rfl) ?_
  refine tq_s_aload_n (kk := 0) (by decide +kernel) rfl ?_
  refine tq_k_ic (n := 0) (v := (0 : Int32)) (by decide +kernel) kc_0 ?_
  refine fp_12_209_51 rfl (by decide +kernel) (fun z1 ez1 => ?_)
  replace h := h z1 ez1
  refine tq_k_bi (n := 39) (v := (39 : Int32)) (by decide +kernel) kb_39 ?_
  refine tq_s_istore_n (kk := 1) (L9 := [.ref 51, .int (39 : Int32), .null, .null, .null]) (by decide +kernel) (by decide) rfl ?_
  exact ac_X12_putSum_8 h
def wc_X12_strip_110 (B43 : Int32 → tq_S → Prop) (B54 : Int32 → tq_S → Prop) (Q : tq_O → tq_S → Prop) (a2 : Int32) (a3 : Int32) (a4 : Int32) (s0 : Int64) (s1 : Int32) (z : tq_S) : Prop := vp_in s1 960 ∧ ∀ z101 : tq_S, z101 = tq_sal z 82 (vp_updL (tq_al z 82) (Int32.toNatClampNeg s1) s0) → ∀ v102 : Int32, v102 = a4 + (1 : Int32) → B54 v102 z101
theorem ac_X12_strip_110 {K : Nat × (Nat → Int32)} {x : Nat} {Q : tq_O → tq_S → Prop} {B43 : Int32 → tq_S → Prop} {B54 : Int32 → tq_S → Prop} {a2 : Int32} {a3 : Int32} {a4 : Int32} {s0 : Int64} {s1 : Int32} {z : tq_S} (hB43 : ∀ (b3 : Int32) (z : tq_S), B43 b3 z → tq_T K 43 x mm_X12_strip 43 [.ref 51, .null, .int a2, .int b3, .null, .null] [] z Q) (hB54 : ∀ (b4 : Int32) (z : tq_S), B54 b4 z → tq_T K 43 x mm_X12_strip 54 [.ref 51, .null, .int a2, .int a3, .int b4, .null] [] z Q) (h : wc_X12_strip_110 B43 B54 Q a2 a3 a4 s0 s1 z) : tq_T K 43 x mm_X12_strip 110 [.ref 51, .null, .int a2, .int a3, .int a4, .null] [.long s0, .int s1, .ref 82] z Q := by
  unfold wc_X12_strip_110 at h
  refine tq_g_last (by decide +kernel) sh_82 h.1 (fun z101 ez101 => ?_)
  replace h := h.2 z101 ez101
  refine tq_g_iinc (i := 4) (fun v102 => [.ref 51, .null, .int a2, .int a3, .int v102, .null]) (by decide +kernel) rfl (1 : Int32) kc_1 (fun _ => rfl) (fun v102 ev102 => ?_)
  replace h := h v102 ev102
  refine tq_s_goto (off := -60) (tgt := 54) (by decide +kernel) (by decide +kernel) ?_
  exact hB54 _ _ h
def wc_X12_strip_117 (B43 : Int32 → tq_S → Prop) (Q : tq_O → tq_S → Prop) (a2 : Int32) (a3 : Int32) (z : tq_S) : Prop := ∀ v101 : Int32, v101 = a3 + (1 : Int32) → B43 v101 z
theorem ac_X12_strip_117 {K : Nat × (Nat → Int32)} {x : Nat} {Q : tq_O → tq_S → Prop} {B43 : Int32 → tq_S → Prop} {a2 : Int32} {a3 : Int32} {z : tq_S} (hB43 : ∀ (b3 : Int32) (z : tq_S), B43 b3 z → tq_T K 43 x mm_X12_strip 43 [.ref 51, .null, .int a2, .int b3, .null, .null] [] z Q) (h : wc_X12_strip_117 B43 Q a2 a3 z) : tq_T K 43 x mm_X12_strip 117 [.ref 51, .null, .int a2, .int a3, .null, .null] [] z Q := by
  unfold wc_X12_strip_117 at h
  refine tq_g_iinc (i := 3) (fun v101 => [.ref 51, .null, .int a2, .int v101, .null, .null]) (by decide +kernel) rfl (1 : Int32) kc_1 (fun _ => rfl) (fun v101 ev101 => ?_)
  replace h := h v101 ev101
  refine tq_s_goto (off := -77) (tgt := 43) (by decide +kernel) (by decide +kernel) ?_
  exact hB43 _ _ h
def wb_X12_strip_54 (B43 : Int32 → tq_S → Prop) (B54 : Int32 → tq_S → Prop) (Q : tq_O → tq_S → Prop) (a2 : Int32) (a3 : Int32) (a4 : Int32) (z : tq_S) : Prop := (((40 : Int32) ≤ a4 → wc_X12_strip_117 B43 Q a2 a3 z) ∧ (¬ (40 : Int32) ≤ a4 → ((¬ a4 = 0 → ((¬ a4 = (1 : Int32) → wc_X12_strip_110 B43 B54 Q a2 a3 a4 (0 : Int64) (((40 : Int32) * a3) + a4) z) ∧ (a4 = (1 : Int32) → vp_in a3 48 ∧ wc_X12_strip_110 B43 B54 Q a2 a3 a4 ((tq_al z 78 (Int32.toNatClampNeg a3)) / (1000000000 : Int64)) (((40 : Int32) * a3) + a4) z))) ∧ (a4 = 0 → vp_in a3 48 ∧ wc_X12_strip_110 B43 B54 Q a2 a3 a4 ((tq_al z 78 (Int32.toNatClampNeg a3)) - (tq_al z 78 (Int32.toNatClampNeg a3)) / (1000000000 : Int64) * (1000000000 : Int64)) (((40 : Int32) * a3) + a4) z))))
def wc_X12_strip_54 (B43 : Int32 → tq_S → Prop) (Q : tq_O → tq_S → Prop) (a2 : Int32) (a3 : Int32) (a4 : Int32) (z : tq_S) : Prop := tq_lp (σ := Int32 × tq_S) (fun B s => wb_X12_strip_54 B43 (fun b4 z => B (b4, z)) Q a2 a3 s.1 s.2) (a4, z)
theorem ab_X12_strip_54 {K : Nat × (Nat → Int32)} {x : Nat} {Q : tq_O → tq_S → Prop} {B43 : Int32 → tq_S → Prop} {B54 : Int32 → tq_S → Prop} {a2 : Int32} {a3 : Int32} {a4 : Int32} {z : tq_S} (hB43 : ∀ (b3 : Int32) (z : tq_S), B43 b3 z → tq_T K 43 x mm_X12_strip 43 [.ref 51, .null, .int a2, .int b3, .null, .null] [] z Q) (hB54 : ∀ (b4 : Int32) (z : tq_S), B54 b4 z → tq_T K 43 x mm_X12_strip 54 [.ref 51, .null, .int a2, .int a3, .int b4, .null] [] z Q) (h : wb_X12_strip_54 B43 B54 Q a2 a3 a4 z) : tq_T K 43 x mm_X12_strip 54 [.ref 51, .null, .int a2, .int a3, .int a4, .null] [] z Q := by
  unfold wb_X12_strip_54 at h
  refine tq_s_iload (i := 4) (by decide +kernel) rfl ?_
  refine tq_k_bi (n := 40) (v := (40 : Int32)) (by decide +kernel) kb_40 ?_
  refine tq_icmp_ge (off := 59) (tgt := 117) (by decide +kernel) (by decide +kernel) (fun hc => ?_) (fun hc => ?_)
  · replace h := h.1 hc
    exact tq_to (tq_lk1 (tq_lk1 (tq_lk1 (tq_lk1 (tq_ld1 (tq_lk1 tq_l0)))))) (ac_X12_strip_117 hB43 h)
  · replace h := h.2 hc
    refine tq_s_aload_n (kk := 0) (by decide +kernel) rfl ?_
    refine fg_12_113_51 rfl (by decide +kernel) ?_
    refine tq_k_bi (n := 40) (v := (40 : Int32)) (by decide +kernel) kb_40 ?_
    refine tq_s_iload_n (kk := 3) (by decide +kernel) rfl ?_
    refine tq_s_imul (by decide +kernel) ?_
    refine tq_s_iload (i := 4) (by decide +kernel) rfl ?_
    refine tq_s_iadd (by decide +kernel) ?_
    refine tq_s_iload (i := 4) (by decide +kernel) rfl ?_
    refine tq_if_ne (off := 16) (tgt := 90) (by decide +kernel) (by decide +kernel) (fun hc => ?_) (fun hc => ?_)
    · replace h := h.1 hc
      refine tq_s_iload (i := 4) (by decide +kernel) rfl ?_
      refine tq_k_ic (n := 1) (v := (1 : Int32)) (by decide +kernel) kc_1 ?_
      refine tq_icmp_ne (off := 16) (tgt := 109) (by decide +kernel) (by decide +kernel) (fun hc => ?_) (fun hc => ?_)
      · replace h := h.1 hc
        refine tq_k_lc (n := 0) (v := (0 : Int64)) (by decide +kernel) (by decide +kernel) ?_
        exact ac_X12_strip_110 hB43 hB54 h
      · replace h := h.2 hc
        refine tq_s_aload_n (kk := 0) (by decide +kernel) rfl ?_
        refine fg_12_101_51 rfl (by decide +kernel) ?_
        refine tq_s_iload_n (kk := 3) (by decide +kernel) rfl ?_
        refine tq_s_lald (by decide +kernel) sh_78 h.1 ?_
        replace h := h.2
        refine tq_s_ldc2 (i := 435) (v := (1000000000 : Int64)) (by decide +kernel) (by decide +kernel) ?_
        refine tq_s_ldiv (by decide +kernel) (by decide +kernel) ?_
        refine tq_s_goto (off := 4) (tgt := 110) (by decide +kernel) (by decide +kernel) ?_
        exact ac_X12_strip_110 hB43 hB54 h
    · replace h := h.2 hc
      refine tq_s_aload_n (kk := 0) (by decide +kernel) rfl ?_
      refine fg_12_101_51 rfl (by decide +kernel) ?_
      refine tq_s_iload_n (kk := 3) (by decide +kernel) rfl ?_
      refine tq_s_lald (by decide +kernel) sh_78 h.1 ?_
      replace h := h.2
      refine tq_s_ldc2 (i := 435) (v := (1000000000 : Int64)) (by decide +kernel) (by decide +kernel) ?_
      refine tq_s_lrem (by decide +kernel) (by decide +kernel) ?_
      refine tq_s_goto (off := 23) (tgt := 110) (by decide +kernel) (by decide +kernel) ?_
      exact ac_X12_strip_110 hB43 hB54 h
theorem ac_X12_strip_54 {K : Nat × (Nat → Int32)} {x : Nat} {Q : tq_O → tq_S → Prop} {B43 : Int32 → tq_S → Prop} {a2 : Int32} {a3 : Int32} {a4 : Int32} {z : tq_S} (hB43 : ∀ (b3 : Int32) (z : tq_S), B43 b3 z → tq_T K 43 x mm_X12_strip 43 [.ref 51, .null, .int a2, .int b3, .null, .null] [] z Q) (h : wc_X12_strip_54 B43 Q a2 a3 a4 z) : tq_T K 43 x mm_X12_strip 54 [.ref 51, .null, .int a2, .int a3, .int a4, .null] [] z Q :=
  tq_lp_T (σ := Int32 × tq_S) (s := (a4, z)) (G := fun s => tq_T K 43 x mm_X12_strip 54 [.ref 51, .null, .int a2, .int a3, .int s.1, .null] [] s.2 Q) (fun B hB s h => ab_X12_strip_54 hB43 (fun b4 z h => hB (b4, z) h) h) h
def wc_X12_strip_206 (B128 : Int32 → tq_S → Prop) (B136 : Int32 → tq_S → Prop) (Q : tq_O → tq_S → Prop) (a2 : Int32) (a3 : Int32) (a4 : Int32) (z : tq_S) : Prop := ∀ v101 : Int32, v101 = a4 + (1 : Int32) → B136 v101 z
theorem ac_X12_strip_206 {K : Nat × (Nat → Int32)} {x : Nat} {Q : tq_O → tq_S → Prop} {B128 : Int32 → tq_S → Prop} {B136 : Int32 → tq_S → Prop} {a2 : Int32} {a3 : Int32} {a4 : Int32} {z : tq_S} (hB128 : ∀ (b3 : Int32) (z : tq_S), B128 b3 z → tq_T K 43 x mm_X12_strip 128 [.ref 51, .null, .int a2, .int b3, .null, .null] [] z Q) (hB136 : ∀ (b4 : Int32) (z : tq_S), B136 b4 z → tq_T K 43 x mm_X12_strip 136 [.ref 51, .null, .int a2, .int a3, .int b4, .null] [] z Q) (h : wc_X12_strip_206 B128 B136 Q a2 a3 a4 z) : tq_T K 43 x mm_X12_strip 206 [.ref 51, .null, .int a2, .int a3, .int a4, .null] [] z Q := by
  unfold wc_X12_strip_206 at h
  refine tq_g_iinc (i := 4) (fun v101 => [.ref 51, .null, .int a2, .int a3, .int v101, .null]) (by decide +kernel) rfl (1 : Int32) kc_1 (fun _ => rfl) (fun v101 ev101 => ?_)
  replace h := h v101 ev101
  refine tq_s_goto (off := -73) (tgt := 136) (by decide +kernel) (by decide +kernel) ?_
  exact hB136 _ _ h
def wb_X12_strip_154 (B128 : Int32 → tq_S → Prop) (B136 : Int32 → tq_S → Prop) (B154 : Int32 → tq_S → Prop) (Q : tq_O → tq_S → Prop) (a2 : Int32) (a3 : Int32) (a4 : Int32) (a5 : Int32) (z : tq_S) : Prop := (((tq_fi z 3313) < a5 → wc_X12_strip_206 B128 B136 Q a2 a3 a4 z) ∧ (¬ (tq_fi z 3313) < a5 → vp_in a4 40 ∧ wm_X12_ruleOf a5 z (tq_wl fun r102 z101 => (¬ (tq_fi z101 3313) = 0) ∧ vp_in (((40 : Int32) * ((a3 - a5) - (a3 - a5) / (tq_fi z101 3313) * (tq_fi z101 3313))) + a4) 960 ∧ vp_in a4 40 ∧ ∀ z103 : tq_S, z103 = tq_sal z101 83 (vp_updL (tq_al z101 83) (Int32.toNatClampNeg a4) ((tq_al z 83 (Int32.toNatClampNeg a4)) + (r102 * (tq_al z101 82 (Int32.toNatClampNeg (((40 : Int32) * ((a3 - a5) - (a3 - a5) / (tq_fi z101 3313) * (tq_fi z101 3313))) + a4)))))) → ∀ v104 : Int32, v104 = a5 + (1 : Int32) → B154 v104 z103)))
def wc_X12_strip_154 (B128 : Int32 → tq_S → Prop) (B136 : Int32 → tq_S → Prop) (Q : tq_O → tq_S → Prop) (a2 : Int32) (a3 : Int32) (a4 : Int32) (a5 : Int32) (z : tq_S) : Prop := tq_lp (σ := Int32 × tq_S) (fun B s => wb_X12_strip_154 B128 B136 (fun b5 z => B (b5, z)) Q a2 a3 a4 s.1 s.2) (a5, z)
theorem ab_X12_strip_154 {K : Nat × (Nat → Int32)} {x : Nat} {Q : tq_O → tq_S → Prop} {B128 : Int32 → tq_S → Prop} {B136 : Int32 → tq_S → Prop} {B154 : Int32 → tq_S → Prop} {a2 : Int32} {a3 : Int32} {a4 : Int32} {a5 : Int32} {z : tq_S} (hB128 : ∀ (b3 : Int32) (z : tq_S), B128 b3 z → tq_T K 43 x mm_X12_strip 128 [.ref 51, .null, .int a2, .int b3, .null, .null] [] z Q) (hB136 : ∀ (b4 : Int32) (z : tq_S), B136 b4 z → tq_T K 43 x mm_X12_strip 136 [.ref 51, .null, .int a2, .int a3, .int b4, .null] [] z Q) (hB154 : ∀ (b5 : Int32) (z : tq_S), B154 b5 z → tq_T K 43 x mm_X12_strip 154 [.ref 51, .null, .int a2, .int a3, .int a4, .int b5] [] z Q) (h : wb_X12_strip_154 B128 B136 B154 Q a2 a3 a4 a5 z) : tq_T K 43 x mm_X12_strip 154 [.ref 51, .null, .int a2, .int a3, .int a4, .int a5] [] z Q := by
  unfold wb_X12_strip_154 at h
  refine tq_s_iload (i := 5) (by decide +kernel) rfl ?_
  refine tq_s_aload_n (kk := 0) (by decide +kernel) rfl ?_
  refine fg_12_417_51 rfl (by decide +kernel) ?_
  refine tq_icmp_gt (off := 46) (tgt := 206) (by decide +kernel) (by decide +kernel) (fun hc => ?_) (fun hc => ?_)
  · replace h := h.1 hc
    exact tq_to (tq_lk1 (tq_lk1 (tq_lk1 (tq_lk1 (tq_lk1 (tq_ld1 tq_l0)))))) (ac_X12_strip_206 hB128 hB136 h)
  · replace h := h.2 hc
    refine tq_s_aload_n (kk := 0) (by decide +kernel) rfl ?_
    refine fg_12_116_51 rfl (by decide +kernel) ?_
    refine tq_s_iload (i := 4) (by decide +kernel) rfl ?_
    refine tq_s_dup2_11 (by decide +kernel) rfl rfl ?_
    refine tq_s_lald (by decide +kernel) sh_83 h.1 ?_
    replace h := h.2
    refine tq_s_aload_n (kk := 0) (by decide +kernel) rfl ?_
    refine tq_s_iload (i := 5) (by decide +kernel) rfl ?_
    refine tq_callV (as := [.int a5]) (st := [.long (tq_al z 83 (Int32.toNatClampNeg a4)), .int a4, .ref 83]) (d1 := 0) (x1 := 0) (x2 := x) (by decide +kernel) ln_12_431 mf_X12_ruleOf rfl sh_51 rfl (by decide) np_X12_ruleOf rfl (Nat.le_of_ble_eq_true rfl) (by decide) (Nat.zero_add _).symm (tq_M_mono (am_X12_ruleOf h) ?_)
    refine tq_wl_e (fun r102 z101 h => ?_)
    refine tq_s_aload_n (kk := 0) (by decide +kernel) rfl ?_
    refine fg_12_113_51 rfl (by decide +kernel) ?_
    refine tq_k_bi (n := 40) (v := (40 : Int32)) (by decide +kernel) kb_40 ?_
    refine tq_s_iload_n (kk := 3) (by decide +kernel) rfl ?_
    refine tq_s_iload (i := 5) (by decide +kernel) rfl ?_
    refine tq_s_isub (by decide +kernel) ?_
    refine tq_s_aload_n (kk := 0) (by decide +kernel) rfl ?_
    refine fg_12_417_51 rfl (by decide +kernel) ?_
    refine tq_s_irem (by decide +kernel) h.1 ?_
    replace h := h.2
    refine tq_s_imul (by decide +kernel) ?_
    refine tq_s_iload (i := 4) (by decide +kernel) rfl ?_
    refine tq_s_iadd (by decide +kernel) ?_
    refine tq_s_lald (by decide +kernel) sh_82 h.1 ?_
    replace h := h.2
    refine tq_s_lmul (by decide +kernel) ?_
    refine tq_s_ladd (by decide +kernel) ?_
    refine tq_g_last (by decide +kernel) sh_83 h.1 (fun z103 ez103 => ?_)
    replace h := h.2 z103 ez103
    refine tq_g_iinc (i := 5) (fun v104 => [.ref 51, .null, .int a2, .int a3, .int a4, .int v104]) (by decide +kernel) rfl (1 : Int32) kc_1 (fun _ => rfl) (fun v104 ev104 => ?_)
    replace h := h v104 ev104
    refine tq_s_goto (off := -49) (tgt := 154) (by decide +kernel) (by decide +kernel) ?_
    exact hB154 _ _ h
theorem ac_X12_strip_154 {K : Nat × (Nat → Int32)} {x : Nat} {Q : tq_O → tq_S → Prop} {B128 : Int32 → tq_S → Prop} {B136 : Int32 → tq_S → Prop} {a2 : Int32} {a3 : Int32} {a4 : Int32} {a5 : Int32} {z : tq_S} (hB128 : ∀ (b3 : Int32) (z : tq_S), B128 b3 z → tq_T K 43 x mm_X12_strip 128 [.ref 51, .null, .int a2, .int b3, .null, .null] [] z Q) (hB136 : ∀ (b4 : Int32) (z : tq_S), B136 b4 z → tq_T K 43 x mm_X12_strip 136 [.ref 51, .null, .int a2, .int a3, .int b4, .null] [] z Q) (h : wc_X12_strip_154 B128 B136 Q a2 a3 a4 a5 z) : tq_T K 43 x mm_X12_strip 154 [.ref 51, .null, .int a2, .int a3, .int a4, .int a5] [] z Q :=
  tq_lp_T (σ := Int32 × tq_S) (s := (a5, z)) (G := fun s => tq_T K 43 x mm_X12_strip 154 [.ref 51, .null, .int a2, .int a3, .int a4, .int s.1] [] s.2 Q) (fun B hB s h => ab_X12_strip_154 hB128 hB136 (fun b5 z h => hB (b5, z) h) h) h
def wc_X12_strip_256 (B128 : Int32 → tq_S → Prop) (Q : tq_O → tq_S → Prop) (a2 : Int32) (a3 : Int32) (z : tq_S) : Prop := ∀ v101 : Int32, v101 = a3 + (1 : Int32) → B128 v101 z
theorem ac_X12_strip_256 {K : Nat × (Nat → Int32)} {x : Nat} {Q : tq_O → tq_S → Prop} {B128 : Int32 → tq_S → Prop} {a2 : Int32} {a3 : Int32} {z : tq_S} (hB128 : ∀ (b3 : Int32) (z : tq_S), B128 b3 z → tq_T K 43 x mm_X12_strip 128 [.ref 51, .null, .int a2, .int b3, .null, .null] [] z Q) (h : wc_X12_strip_256 B128 Q a2 a3 z) : tq_T K 43 x mm_X12_strip 256 [.ref 51, .null, .int a2, .int a3, .null, .null] [] z Q := by
  unfold wc_X12_strip_256 at h
  refine tq_g_iinc (i := 3) (fun v101 => [.ref 51, .null, .int a2, .int v101, .null, .null]) (by decide +kernel) rfl (1 : Int32) kc_1 (fun _ => rfl) (fun v101 ev101 => ?_)
  replace h := h v101 ev101
  refine tq_s_goto (off := -131) (tgt := 128) (by decide +kernel) (by decide +kernel) ?_
  exact hB128 _ _ h
def wb_X12_strip_219 (B128 : Int32 → tq_S → Prop) (B219 : Int32 → tq_S → Prop) (Q : tq_O → tq_S → Prop) (a2 : Int32) (a3 : Int32) (a4 : Int32) (z : tq_S) : Prop := (((40 : Int32) ≤ a4 → wc_X12_strip_256 B128 Q a2 a3 z) ∧ (¬ (40 : Int32) ≤ a4 → (¬ (tq_fi z 3313) = 0) ∧ vp_in a4 40 ∧ vp_in (((40 : Int32) * (a3 - a3 / (tq_fi z 3313) * (tq_fi z 3313))) + a4) 960 ∧ ∀ z101 : tq_S, z101 = tq_sal z 82 (vp_updL (tq_al z 82) (Int32.toNatClampNeg (((40 : Int32) * (a3 - a3 / (tq_fi z 3313) * (tq_fi z 3313))) + a4)) (tq_al z 83 (Int32.toNatClampNeg a4))) → ∀ v102 : Int32, v102 = a4 + (1 : Int32) → B219 v102 z101))
def wc_X12_strip_219 (B128 : Int32 → tq_S → Prop) (Q : tq_O → tq_S → Prop) (a2 : Int32) (a3 : Int32) (a4 : Int32) (z : tq_S) : Prop := tq_lp (σ := Int32 × tq_S) (fun B s => wb_X12_strip_219 B128 (fun b4 z => B (b4, z)) Q a2 a3 s.1 s.2) (a4, z)
theorem ab_X12_strip_219 {K : Nat × (Nat → Int32)} {x : Nat} {Q : tq_O → tq_S → Prop} {B128 : Int32 → tq_S → Prop} {B219 : Int32 → tq_S → Prop} {a2 : Int32} {a3 : Int32} {a4 : Int32} {z : tq_S} (hB128 : ∀ (b3 : Int32) (z : tq_S), B128 b3 z → tq_T K 43 x mm_X12_strip 128 [.ref 51, .null, .int a2, .int b3, .null, .null] [] z Q) (hB219 : ∀ (b4 : Int32) (z : tq_S), B219 b4 z → tq_T K 43 x mm_X12_strip 219 [.ref 51, .null, .int a2, .int a3, .int b4, .null] [] z Q) (h : wb_X12_strip_219 B128 B219 Q a2 a3 a4 z) : tq_T K 43 x mm_X12_strip 219 [.ref 51, .null, .int a2, .int a3, .int a4, .null] [] z Q := by
  unfold wb_X12_strip_219 at h
  refine tq_s_iload (i := 4) (by decide +kernel) rfl ?_
  refine tq_k_bi (n := 40) (v := (40 : Int32)) (by decide +kernel) kb_40 ?_
  refine tq_icmp_ge (off := 33) (tgt := 256) (by decide +kernel) (by decide +kernel) (fun hc => ?_) (fun hc => ?_)
  · replace h := h.1 hc
    exact tq_to (tq_lk1 (tq_lk1 (tq_lk1 (tq_lk1 (tq_ld1 (tq_lk1 tq_l0)))))) (ac_X12_strip_256 hB128 h)
  · replace h := h.2 hc
    refine tq_s_aload_n (kk := 0) (by decide +kernel) rfl ?_
    refine fg_12_113_51 rfl (by decide +kernel) ?_
    refine tq_k_bi (n := 40) (v := (40 : Int32)) (by decide +kernel) kb_40 ?_
    refine tq_s_iload_n (kk := 3) (by decide +kernel) rfl ?_
    refine tq_s_aload_n (kk := 0) (by decide +kernel) rfl ?_
    refine fg_12_417_51 rfl (by decide +kernel) ?_
    refine tq_s_irem (by decide +kernel) h.1 ?_
    replace h := h.2
    refine tq_s_imul (by decide +kernel) ?_
    refine tq_s_iload (i := 4) (by decide +kernel) rfl ?_
    refine tq_s_iadd (by decide +kernel) ?_
    refine tq_s_aload_n (kk := 0) (by decide +kernel) rfl ?_
    refine fg_12_116_51 rfl (by decide +kernel) ?_
    refine tq_s_iload (i := 4) (by decide +kernel) rfl ?_
    refine tq_s_lald (by decide +kernel) sh_83 h.1 ?_
    replace h := h.2
    refine tq_g_last (by decide +kernel) sh_82 h.1 (fun z101 ez101 => ?_)
    replace h := h.2 z101 ez101
    refine tq_g_iinc (i := 4) (fun v102 => [.ref 51, .null, .int a2, .int a3, .int v102, .null]) (by decide +kernel) rfl (1 : Int32) kc_1 (fun _ => rfl) (fun v102 ev102 => ?_)
    replace h := h v102 ev102
    refine tq_s_goto (off := -34) (tgt := 219) (by decide +kernel) (by decide +kernel) ?_
    exact hB219 _ _ h
theorem ac_X12_strip_219 {K : Nat × (Nat → Int32)} {x : Nat} {Q : tq_O → tq_S → Prop} {B128 : Int32 → tq_S → Prop} {a2 : Int32} {a3 : Int32} {a4 : Int32} {z : tq_S} (hB128 : ∀ (b3 : Int32) (z : tq_S), B128 b3 z → tq_T K 43 x mm_X12_strip 128 [.ref 51, .null, .int a2, .int b3, .null, .null] [] z Q) (h : wc_X12_strip_219 B128 Q a2 a3 a4 z) : tq_T K 43 x mm_X12_strip 219 [.ref 51, .null, .int a2, .int a3, .int a4, .null] [] z Q :=
  tq_lp_T (σ := Int32 × tq_S) (s := (a4, z)) (G := fun s => tq_T K 43 x mm_X12_strip 219 [.ref 51, .null, .int a2, .int a3, .int s.1, .null] [] s.2 Q) (fun B hB s h => ab_X12_strip_219 hB128 (fun b4 z h => hB (b4, z) h) h) h
def wc_X12_strip_212 (B128 : Int32 → tq_S → Prop) (Q : tq_O → tq_S → Prop) (a2 : Int32) (a3 : Int32) (z : tq_S) : Prop := wm_X12_carry z (tq_wv fun z101 => wc_X12_strip_219 B128 Q a2 a3 (0 : Int32) z101)
theorem ac_X12_strip_212 {K : Nat × (Nat → Int32)} {x : Nat} {Q : tq_O → tq_S → Prop} {B128 : Int32 → tq_S → Prop} {a2 : Int32} {a3 : Int32} {z : tq_S} (hB128 : ∀ (b3 : Int32) (z : tq_S), B128 b3 z → tq_T K 43 x mm_X12_strip 128 [.ref 51, .null, .int a2, .int b3, .null, .null] [] z Q) (h : wc_X12_strip_212 B128 Q a2 a3 z) : tq_T K 43 x mm_X12_strip 212 [.ref 51, .null, .int a2, .int a3, .null, .null] [] z Q := by
  unfold wc_X12_strip_212 at h
  refine tq_s_aload_n (kk := 0) (by decide +kernel) rfl ?_
  refine tq_callV (as := []) (st := []) (d1 := 0) (x1 := 0) (x2 := x) (by decide +kernel) ln_12_437 mf_X12_carry rfl sh_51 rfl (by decide) np_X12_carry rfl (Nat.le_of_ble_eq_true rfl) (by decide) (Nat.zero_add _).symm (tq_M_mono (am_X12_carry h) ?_)
  refine tq_wv_e (fun z101 h => ?_)
  refine tq_k_ic (n := 0) (v := (0 : Int32)) (by decide +kernel) kc_0 ?_
  refine tq_s_istore (i := 4) (L9 := [.ref 51, .null, .int a2, .int a3, .int (0 : Int32), .null]) (by decide +kernel) (by decide) rfl ?_
  exact ac_X12_strip_219 hB128 h
def wb_X12_strip_136 (B128 : Int32 → tq_S → Prop) (B136 : Int32 → tq_S → Prop) (Q : tq_O → tq_S → Prop) (a2 : Int32) (a3 : Int32) (a4 : Int32) (z : tq_S) : Prop := (((40 : Int32) ≤ a4 → wc_X12_strip_212 B128 Q a2 a3 z) ∧ (¬ (40 : Int32) ≤ a4 → vp_in a4 40 ∧ ∀ z101 : tq_S, z101 = tq_sal z 83 (vp_updL (tq_al z 83) (Int32.toNatClampNeg a4) (0 : Int64)) → wc_X12_strip_154 B128 B136 Q a2 a3 a4 (1 : Int32) z101))
def wc_X12_strip_136 (B128 : Int32 → tq_S → Prop) (Q : tq_O → tq_S → Prop) (a2 : Int32) (a3 : Int32) (a4 : Int32) (z : tq_S) : Prop := tq_lp (σ := Int32 × tq_S) (fun B s => wb_X12_strip_136 B128 (fun b4 z => B (b4, z)) Q a2 a3 s.1 s.2) (a4, z)
theorem ab_X12_strip_136 {K : Nat × (Nat → Int32)} {x : Nat} {Q : tq_O → tq_S → Prop} {B128 : Int32 → tq_S → Prop} {B136 : Int32 → tq_S → Prop} {a2 : Int32} {a3 : Int32} {a4 : Int32} {z : tq_S} (hB128 : ∀ (b3 : Int32) (z : tq_S), B128 b3 z → tq_T K 43 x mm_X12_strip 128 [.ref 51, .null, .int a2, .int b3, .null, .null] [] z Q) (hB136 : ∀ (b4 : Int32) (z : tq_S), B136 b4 z → tq_T K 43 x mm_X12_strip 136 [.ref 51, .null, .int a2, .int a3, .int b4, .null] [] z Q) (h : wb_X12_strip_136 B128 B136 Q a2 a3 a4 z) : tq_T K 43 x mm_X12_strip 136 [.ref 51, .null, .int a2, .int a3, .int a4, .null] [] z Q := by
  unfold wb_X12_strip_136 at h
  refine tq_s_iload (i := 4) (by decide +kernel) rfl ?_
  refine tq_k_bi (n := 40) (v := (40 : Int32)) (by decide +kernel) kb_40 ?_
  refine tq_icmp_ge (off := 72) (tgt := 212) (by decide +kernel) (by decide +kernel) (fun hc => ?_) (fun hc => ?_)
  · replace h := h.1 hc
    exact tq_to (tq_lk1 (tq_lk1 (tq_lk1 (tq_lk1 (tq_ld1 (tq_lk1 tq_l0)))))) (ac_X12_strip_212 hB128 h)
  · replace h := h.2 hc
    refine tq_s_aload_n (kk := 0) (by decide +kernel) rfl ?_
    refine fg_12_116_51 rfl (by decide +kernel) ?_
    refine tq_s_iload (i := 4) (by decide +kernel) rfl ?_
    refine tq_k_lc (n := 0) (v := (0 : Int64)) (by decide +kernel) (by decide +kernel) ?_
    refine tq_g_last (by decide +kernel) sh_83 h.1 (fun z101 ez101 => ?_)
    replace h := h.2 z101 ez101
    refine tq_k_ic (n := 1) (v := (1 : Int32)) (by decide +kernel) kc_1 ?_
    refine tq_s_istore (i := 5) (L9 := [.ref 51, .null, .int a2, .int a3, .int a4, .int (1 : Int32)]) (by decide +kernel) (by decide) rfl ?_
    exact ac_X12_strip_154 hB128 hB136 h
theorem ac_X12_strip_136 {K : Nat × (Nat → Int32)} {x : Nat} {Q : tq_O → tq_S → Prop} {B128 : Int32 → tq_S → Prop} {a2 : Int32} {a3 : Int32} {a4 : Int32} {z : tq_S} (hB128 : ∀ (b3 : Int32) (z : tq_S), B128 b3 z → tq_T K 43 x mm_X12_strip 128 [.ref 51, .null, .int a2, .int b3, .null, .null] [] z Q) (h : wc_X12_strip_136 B128 Q a2 a3 a4 z) : tq_T K 43 x mm_X12_strip 136 [.ref 51, .null, .int a2, .int a3, .int a4, .null] [] z Q :=
  tq_lp_T (σ := Int32 × tq_S) (s := (a4, z)) (G := fun s => tq_T K 43 x mm_X12_strip 136 [.ref 51, .null, .int a2, .int a3, .int s.1, .null] [] s.2 Q) (fun B hB s h => ab_X12_strip_136 hB128 (fun b4 z h => hB (b4, z) h) h) h
def wc_X12_strip_298 (Q : tq_O → tq_S → Prop)  (z : tq_S) : Prop := wm_X12_putSum z (tq_wi fun r102 z101 => Q (.inl (some (.int r102))) z101)
theorem ac_X12_strip_298 {K : Nat × (Nat → Int32)} {x : Nat} {Q : tq_O → tq_S → Prop}  {z : tq_S} (h : wc_X12_strip_298 Q z) : tq_T K 43 x mm_X12_strip 298 [.ref 51, .null, .null, .null, .null, .null] [] z Q := by
  unfold wc_X12_strip_298 at h
  refine tq_s_aload_n (kk := 0) (by decide +kernel) rfl ?_
  refine tq_callV (as := []) (st := []) (d1 := 41) (x1 := 0) (x2 := x) (by decide +kernel) ln_12_440 mf_X12_putSum rfl sh_51 rfl (by decide) np_X12_putSum rfl (Nat.le_of_ble_eq_true rfl) (by decide) (Nat.zero_add _).symm (tq_M_mono (am_X12_putSum h) ?_)
  refine tq_wi_e (fun r102 z101 h => ?_)
  exact tq_ret_i (st := []) (by decide +kernel) rfl h
def wb_X12_strip_264 (B264 : Int32 → tq_S → Prop) (Q : tq_O → tq_S → Prop) (a2 : Int32) (a3 : Int32) (z : tq_S) : Prop := (((40 : Int32) ≤ a3 → wc_X12_strip_298 Q z) ∧ (¬ (40 : Int32) ≤ a3 → (¬ (tq_fi z 3313) = 0) ∧ vp_in (((40 : Int32) * (a2 - a2 / (tq_fi z 3313) * (tq_fi z 3313))) + a3) 960 ∧ vp_in a3 40 ∧ ∀ z101 : tq_S, z101 = tq_sal z 83 (vp_updL (tq_al z 83) (Int32.toNatClampNeg a3) (tq_al z 82 (Int32.toNatClampNeg (((40 : Int32) * (a2 - a2 / (tq_fi z 3313) * (tq_fi z 3313))) + a3)))) → ∀ v102 : Int32, v102 = a3 + (1 : Int32) → B264 v102 z101))
def wc_X12_strip_264 (Q : tq_O → tq_S → Prop) (a2 : Int32) (a3 : Int32) (z : tq_S) : Prop := tq_lp (σ := Int32 × tq_S) (fun B s => wb_X12_strip_264 (fun b3 z => B (b3, z)) Q a2 s.1 s.2) (a3, z)
theorem ab_X12_strip_264 {K : Nat × (Nat → Int32)} {x : Nat} {Q : tq_O → tq_S → Prop} {B264 : Int32 → tq_S → Prop} {a2 : Int32} {a3 : Int32} {z : tq_S} (hB264 : ∀ (b3 : Int32) (z : tq_S), B264 b3 z → tq_T K 43 x mm_X12_strip 264 [.ref 51, .null, .int a2, .int b3, .null, .null] [] z Q) (h : wb_X12_strip_264 B264 Q a2 a3 z) : tq_T K 43 x mm_X12_strip 264 [.ref 51, .null, .int a2, .int a3, .null, .null] [] z Q := by
  unfold wb_X12_strip_264 at h
  refine tq_s_iload_n (kk := 3) (by decide +kernel) rfl ?_
  refine tq_k_bi (n := 40) (v := (40 : Int32)) (by decide +kernel) kb_40 ?_
  refine tq_icmp_ge (off := 31) (tgt := 298) (by decide +kernel) (by decide +kernel) (fun hc => ?_) (fun hc => ?_)
  · replace h := h.1 hc
    exact tq_to (tq_lk1 (tq_lk1 (tq_ld1 (tq_ld1 (tq_lk1 (tq_lk1 tq_l0)))))) (ac_X12_strip_298 h)
  · replace h := h.2 hc
    refine tq_s_aload_n (kk := 0) (by decide +kernel) rfl ?_
    refine fg_12_116_51 rfl (by decide +kernel) ?_
    refine tq_s_iload_n (kk := 3) (by decide +kernel) rfl ?_
    refine tq_s_aload_n (kk := 0) (by decide +kernel) rfl ?_
    refine fg_12_113_51 rfl (by decide +kernel) ?_
    refine tq_k_bi (n := 40) (v := (40 : Int32)) (by decide +kernel) kb_40 ?_
    refine tq_s_iload_n (kk := 2) (by decide +kernel) rfl ?_
    refine tq_s_aload_n (kk := 0) (by decide +kernel) rfl ?_
    refine fg_12_417_51 rfl (by decide +kernel) ?_
    refine tq_s_irem (by decide +kernel) h.1 ?_
    replace h := h.2
    refine tq_s_imul (by decide +kernel) ?_
    refine tq_s_iload_n (kk := 3) (by decide +kernel) rfl ?_
    refine tq_s_iadd (by decide +kernel) ?_
    refine tq_s_lald (by decide +kernel) sh_82 h.1 ?_
    replace h := h.2
    refine tq_g_last (by decide +kernel) sh_83 h.1 (fun z101 ez101 => ?_)
    replace h := h.2 z101 ez101
    refine tq_g_iinc (i := 3) (fun v102 => [.ref 51, .null, .int a2, .int v102, .null, .null]) (by decide +kernel) rfl (1 : Int32) kc_1 (fun _ => rfl) (fun v102 ev102 => ?_)
    replace h := h v102 ev102
    refine tq_s_goto (off := -31) (tgt := 264) (by decide +kernel) (by decide +kernel) ?_
    exact hB264 _ _ h
theorem ac_X12_strip_264 {K : Nat × (Nat → Int32)} {x : Nat} {Q : tq_O → tq_S → Prop} {a2 : Int32} {a3 : Int32} {z : tq_S} (h : wc_X12_strip_264 Q a2 a3 z) : tq_T K 43 x mm_X12_strip 264 [.ref 51, .null, .int a2, .int a3, .null, .null] [] z Q :=
  tq_lp_T (σ := Int32 × tq_S) (s := (a3, z)) (G := fun s => tq_T K 43 x mm_X12_strip 264 [.ref 51, .null, .int a2, .int s.1, .null, .null] [] s.2 Q) (fun B hB s h => ab_X12_strip_264 (fun b3 z h => hB (b3, z) h) h) h
def wc_X12_strip_262 (Q : tq_O → tq_S → Prop) (a2 : Int32) (z : tq_S) : Prop := wc_X12_strip_264 Q a2 (0 : Int32) z
theorem ac_X12_strip_262 {K : Nat × (Nat → Int32)} {x : Nat} {Q : tq_O → tq_S → Prop} {a2 : Int32} {z : tq_S} (h : wc_X12_strip_262 Q a2 z) : tq_T K 43 x mm_X12_strip 262 [.ref 51, .null, .int a2, .null, .null, .null] [] z Q := by
  unfold wc_X12_strip_262 at h
  refine tq_k_ic (n := 0) (v := (0 : Int32)) (by decide +kernel) kc_0 ?_
  refine tq_s_istore_n (kk := 3) (L9 := [.ref 51, .null, .int a2, .int (0 : Int32), .null, .null]) (by decide +kernel) (by decide) rfl ?_
  exact ac_X12_strip_264 h
def wb_X12_strip_128 (B128 : Int32 → tq_S → Prop) (Q : tq_O → tq_S → Prop) (a2 : Int32) (a3 : Int32) (z : tq_S) : Prop := ((a2 < a3 → wc_X12_strip_262 Q a2 z) ∧ (¬ a2 < a3 → wc_X12_strip_136 B128 Q a2 a3 (0 : Int32) z))
def wc_X12_strip_128 (Q : tq_O → tq_S → Prop) (a2 : Int32) (a3 : Int32) (z : tq_S) : Prop := tq_lp (σ := Int32 × tq_S) (fun B s => wb_X12_strip_128 (fun b3 z => B (b3, z)) Q a2 s.1 s.2) (a3, z)
theorem ab_X12_strip_128 {K : Nat × (Nat → Int32)} {x : Nat} {Q : tq_O → tq_S → Prop} {B128 : Int32 → tq_S → Prop} {a2 : Int32} {a3 : Int32} {z : tq_S} (hB128 : ∀ (b3 : Int32) (z : tq_S), B128 b3 z → tq_T K 43 x mm_X12_strip 128 [.ref 51, .null, .int a2, .int b3, .null, .null] [] z Q) (h : wb_X12_strip_128 B128 Q a2 a3 z) : tq_T K 43 x mm_X12_strip 128 [.ref 51, .null, .int a2, .int a3, .null, .null] [] z Q := by
  unfold wb_X12_strip_128 at h
  refine tq_s_iload_n (kk := 3) (by decide +kernel) rfl ?_
  refine tq_s_iload_n (kk := 2) (by decide +kernel) rfl ?_
  refine tq_icmp_gt (off := 132) (tgt := 262) (by decide +kernel) (by decide +kernel) (fun hc => ?_) (fun hc => ?_)
  · replace h := h.1 hc
    exact tq_to (tq_lk1 (tq_lk1 (tq_lk1 (tq_ld1 (tq_lk1 (tq_lk1 tq_l0)))))) (ac_X12_strip_262 h)
  · replace h := h.2 hc
    refine tq_k_ic (n := 0) (v := (0 : Int32)) (by decide +kernel) kc_0 ?_
    refine tq_s_istore (i := 4) (L9 := [.ref 51, .null, .int a2, .int a3, .int (0 : Int32), .null]) (by decide +kernel) (by decide) rfl ?_
    exact ac_X12_strip_136 hB128 h
theorem ac_X12_strip_128 {K : Nat × (Nat → Int32)} {x : Nat} {Q : tq_O → tq_S → Prop} {a2 : Int32} {a3 : Int32} {z : tq_S} (h : wc_X12_strip_128 Q a2 a3 z) : tq_T K 43 x mm_X12_strip 128 [.ref 51, .null, .int a2, .int a3, .null, .null] [] z Q :=
  tq_lp_T (σ := Int32 × tq_S) (s := (a3, z)) (G := fun s => tq_T K 43 x mm_X12_strip 128 [.ref 51, .null, .int a2, .int s.1, .null, .null] [] s.2 Q) (fun B hB s h => ab_X12_strip_128 (fun b3 z h => hB (b3, z) h) h) h
def wc_X12_strip_123 (Q : tq_O → tq_S → Prop) (a2 : Int32) (z : tq_S) : Prop := ∀ v101 : Int32, v101 = (tq_fi z 3313) → wc_X12_strip_128 Q a2 v101 z
theorem ac_X12_strip_123 {K : Nat × (Nat → Int32)} {x : Nat} {Q : tq_O → tq_S → Prop} {a2 : Int32} {z : tq_S} (h : wc_X12_strip_123 Q a2 z) : tq_T K 43 x mm_X12_strip 123 [.ref 51, .null, .int a2, .null, .null, .null] [] z Q := by
  unfold wc_X12_strip_123 at h
  refine tq_s_aload_n (kk := 0) (by decide +kernel) rfl ?_
  refine fg_12_417_51 rfl (by decide +kernel) ?_
  refine tq_g_istore_n (kk := 3) (fun v101 => [.ref 51, .null, .int a2, .int v101, .null, .null]) (by decide +kernel) (by decide) (fun _ => rfl) (fun v101 ev101 => ?_)
  replace h := h v101 ev101
  exact ac_X12_strip_128 h
def wb_X12_strip_43 (B43 : Int32 → tq_S → Prop) (Q : tq_O → tq_S → Prop) (a2 : Int32) (a3 : Int32) (z : tq_S) : Prop := (((tq_fi z 3313) ≤ a3 → wc_X12_strip_123 Q a2 z) ∧ (¬ (tq_fi z 3313) ≤ a3 → wc_X12_strip_54 B43 Q a2 a3 (0 : Int32) z))
def wc_X12_strip_43 (Q : tq_O → tq_S → Prop) (a2 : Int32) (a3 : Int32) (z : tq_S) : Prop := tq_lp (σ := Int32 × tq_S) (fun B s => wb_X12_strip_43 (fun b3 z => B (b3, z)) Q a2 s.1 s.2) (a3, z)
theorem ab_X12_strip_43 {K : Nat × (Nat → Int32)} {x : Nat} {Q : tq_O → tq_S → Prop} {B43 : Int32 → tq_S → Prop} {a2 : Int32} {a3 : Int32} {z : tq_S} (hB43 : ∀ (b3 : Int32) (z : tq_S), B43 b3 z → tq_T K 43 x mm_X12_strip 43 [.ref 51, .null, .int a2, .int b3, .null, .null] [] z Q) (h : wb_X12_strip_43 B43 Q a2 a3 z) : tq_T K 43 x mm_X12_strip 43 [.ref 51, .null, .int a2, .int a3, .null, .null] [] z Q := by
  unfold wb_X12_strip_43 at h
  refine tq_s_iload_n (kk := 3) (by decide +kernel) rfl ?_
  refine tq_s_aload_n (kk := 0) (by decide +kernel) rfl ?_
  refine fg_12_417_51 rfl (by decide +kernel) ?_
  refine tq_icmp_ge (off := 75) (tgt := 123) (by decide +kernel) (by decide +kernel) (fun hc => ?_) (fun hc => ?_)
  · replace h := h.1 hc
    exact tq_to (tq_lk1 (tq_lk1 (tq_lk1 (tq_ld1 (tq_lk1 (tq_lk1 tq_l0)))))) (ac_X12_strip_123 h)
  · replace h := h.2 hc
    refine tq_k_ic (n := 0) (v := (0 : Int32)) (by decide +kernel) kc_0 ?_
    refine tq_s_istore (i := 4) (L9 := [.ref 51, .null, .int a2, .int a3, .int (0 : Int32), .null]) (by decide +kernel) (by decide) rfl ?_
    exact ac_X12_strip_54 hB43 h
theorem ac_X12_strip_43 {K : Nat × (Nat → Int32)} {x : Nat} {Q : tq_O → tq_S → Prop} {a2 : Int32} {a3 : Int32} {z : tq_S} (h : wc_X12_strip_43 Q a2 a3 z) : tq_T K 43 x mm_X12_strip 43 [.ref 51, .null, .int a2, .int a3, .null, .null] [] z Q :=
  tq_lp_T (σ := Int32 × tq_S) (s := (a3, z)) (G := fun s => tq_T K 43 x mm_X12_strip 43 [.ref 51, .null, .int a2, .int s.1, .null, .null] [] s.2 Q) (fun B hB s h => ab_X12_strip_43 (fun b3 z h => hB (b3, z) h) h) h
def wc_X12_strip_27 (Q : tq_O → tq_S → Prop) (a1 : Int32) (a2 : Int32) (s0 : Int32) (z : tq_S) : Prop := wm_X12_isThrown s0 (1 : Int32) z (tq_wi fun r102 z101 => ((r102 = 0 → wm_X12_tellRule a1 z101 (tq_wv fun z103 => wc_X12_strip_43 Q a2 (0 : Int32) z103)) ∧ (¬ r102 = 0 → Q (.inl (some (.int (0 : Int32)))) z101)))
theorem ac_X12_strip_27 {K : Nat × (Nat → Int32)} {x : Nat} {Q : tq_O → tq_S → Prop} {a1 : Int32} {a2 : Int32} {s0 : Int32} {z : tq_S} (h : wc_X12_strip_27 Q a1 a2 s0 z) : tq_T K 43 x mm_X12_strip 27 [.ref 51, .int a1, .int a2, .null, .null, .null] [.int s0, .ref 51] z Q := by
  unfold wc_X12_strip_27 at h
  refine tq_k_ic (n := 1) (v := (1 : Int32)) (by decide +kernel) kc_1 ?_
  refine tq_callV (as := [.int s0, .int (1 : Int32)]) (st := []) (d1 := 0) (x1 := 0) (x2 := x) (by decide +kernel) ln_12_152 mf_X12_isThrown rfl sh_51 rfl (by decide) np_X12_isThrown rfl (Nat.le_of_ble_eq_true rfl) (by decide) (Nat.zero_add _).symm (tq_M_mono (am_X12_isThrown h) ?_)
  refine tq_wi_e (fun r102 z101 h => ?_)
  refine tq_if_eq (off := 5) (tgt := 36) (by decide +kernel) (by decide +kernel) (fun hc => ?_) (fun hc => ?_)
  · replace h := h.1 hc
    refine tq_s_aload_n (kk := 0) (by decide +kernel) rfl ?_
    refine tq_s_iload_n (kk := 1) (by decide +kernel) rfl ?_
    refine tq_callV (as := [.int a1]) (st := []) (d1 := 42) (x1 := 0) (x2 := x) (by decide +kernel) ln_12_428 mf_X12_tellRule rfl sh_51 rfl (by decide) np_X12_tellRule rfl (Nat.le_of_ble_eq_true rfl) (by decide) (Nat.zero_add _).symm (tq_M_mono (am_X12_tellRule h) ?_)
    refine tq_wv_e (fun z103 h => ?_)
    refine tq_k_ic (n := 0) (v := (0 : Int32)) (by decide +kernel) kc_0 ?_
    refine tq_s_istore_n (kk := 3) (L9 := [.ref 51, .int a1, .int a2, .int (0 : Int32), .null, .null]) (by decide +kernel) (by decide) rfl ?_
    exact tq_to (tq_lk1 (tq_ld1 (tq_lk1 (tq_lk1 (tq_lk1 (tq_lk1 tq_l0)))))) (ac_X12_strip_43 h)
  · replace h := h.2 hc
    refine tq_k_ic (n := 0) (v := (0 : Int32)) (by decide +kernel) kc_0 ?_
    exact tq_ret_i (st := []) (by decide +kernel) rfl h
def wc_X12_strip_22 (Q : tq_O → tq_S → Prop) (a1 : Int32) (a2 : Int32) (z : tq_S) : Prop := wc_X12_strip_27 Q a1 a2 (1 : Int32) z
theorem ac_X12_strip_22 {K : Nat × (Nat → Int32)} {x : Nat} {Q : tq_O → tq_S → Prop} {a1 : Int32} {a2 : Int32} {z : tq_S} (h : wc_X12_strip_22 Q a1 a2 z) : tq_T K 43 x mm_X12_strip 22 [.ref 51, .int a1, .int a2, .null, .null, .null] [.ref 51] z Q := by
  unfold wc_X12_strip_22 at h
  refine tq_k_ic (n := 1) (v := (1 : Int32)) (by decide +kernel) kc_1 ?_
  refine tq_s_goto (off := 4) (tgt := 27) (by decide +kernel) (by decide +kernel) ?_
  exact ac_X12_strip_27 h
def wm_X12_strip (a1 : Int32) (a2 : Int32) (z : tq_S) (Q : tq_O → tq_S → Prop) : Prop := wm_X12_isIn a1 (1 : Int32) (6 : Int32) z (tq_wi fun r2 z1 => ((r2 = 0 → wc_X12_strip_22 Q a1 a2 z1) ∧ (¬ r2 = 0 → wm_X12_isIn a2 (0 : Int32) (300 : Int32) z1 (tq_wi fun r4 z3 => ((¬ r4 = 0 → wc_X12_strip_27 Q a1 a2 (0 : Int32) z3) ∧ (r4 = 0 → wc_X12_strip_22 Q a1 a2 z3))))))
theorem am_X12_strip {K : Nat × (Nat → Int32)} {x : Nat} {z : tq_S} {Q : tq_O → tq_S → Prop} {a1 : Int32} {a2 : Int32} (h : wm_X12_strip a1 a2 z Q) : tq_M K 43 x mm_X12_strip [.ref 51, .int a1, .int a2] z Q := by
  unfold wm_X12_strip at h
  refine tq_enter (L := [.ref 51, .int a1, .int a2, .null, .null, .null]) mf_X12_strip.1 rfl rfl (Nat.le_of_ble_eq_true rfl) ?_
  refine tq_s_aload_n (kk := 0) (by decide +kernel) rfl ?_
  refine tq_s_iload_n (kk := 1) (by decide +kernel) rfl ?_
  refine tq_k_ic (n := 1) (v := (1 : Int32)) (by decide +kernel) kc_1 ?_
  refine tq_k_bi (n := 6) (v := (6 : Int32)) (by decide +kernel) kb_6 ?_
  refine tq_callS (as := [.int a1, .int (1 : Int32), .int (6 : Int32)]) (st := [.ref 51]) (d1 := 0) (x1 := 0) (x2 := x) (by decide +kernel) ln_12_148 mf_X12_isIn rfl (by decide) np_X12_isIn rfl (Nat.le_of_ble_eq_true rfl) (by decide) (Nat.zero_add _).symm (tq_M_mono (am_X12_isIn h) ?_)
  refine tq_wi_e (fun r2 z1 h => ?_)
  refine tq_if_eq (off := 14) (tgt := 22) (by decide +kernel) (by decide +kernel) (fun hc => ?_) (fun hc => ?_)
  · replace h := h.1 hc
    exact ac_X12_strip_22 h
  · replace h := h.2 hc
    refine tq_s_iload_n (kk := 2) (by decide +kernel) rfl ?_
    refine tq_k_ic (n := 0) (v := (0 : Int32)) (by decide +kernel) kc_0 ?_
    refine tq_k_si (n := 300) (v := (300 : Int32)) (by decide +kernel) ks_300 ?_
    refine tq_callS (as := [.int a2, .int (0 : Int32), .int (300 : Int32)]) (st := [.ref 51]) (d1 := 0) (x1 := 0) (x2 := x) (by decide +kernel) ln_12_148 mf_X12_isIn rfl (by decide) np_X12_isIn rfl (Nat.le_of_ble_eq_true rfl) (by decide) (Nat.zero_add _).symm (tq_M_mono (am_X12_isIn h) ?_)
    refine tq_wi_e (fun r4 z3 h => ?_)
    refine tq_if_ne (off := 7) (tgt := 26) (by decide +kernel) (by decide +kernel) (fun hc => ?_) (fun hc => ?_)
    · replace h := h.1 hc
      refine tq_k_ic (n := 0) (v := (0 : Int32)) (by decide +kernel) kc_0 ?_
      exact ac_X12_strip_27 h
    · replace h := h.2 hc
      exact ac_X12_strip_22 h
def wc_X12_factors_37 (B5 : Int32 → Int32 → tq_S → Prop) (Q : tq_O → tq_S → Prop) (a2 : Int32) (a3 : Int32) (a4 : Int32) (z : tq_S) : Prop := ∀ v101 : Int32, v101 = a4 + (1 : Int32) → B5 a3 v101 z
theorem ac_X12_factors_37 {K : Nat × (Nat → Int32)} {x : Nat} {Q : tq_O → tq_S → Prop} {B5 : Int32 → Int32 → tq_S → Prop} {a2 : Int32} {a3 : Int32} {a4 : Int32} {z : tq_S} (hB5 : ∀ (b3 : Int32) (b4 : Int32) (z : tq_S), B5 b3 b4 z → tq_T K 0 x mm_X12_factors 5 [.ref 51, .null, .int a2, .int b3, .int b4] [] z Q) (h : wc_X12_factors_37 B5 Q a2 a3 a4 z) : tq_T K 0 x mm_X12_factors 37 [.ref 51, .null, .int a2, .int a3, .int a4] [] z Q := by
  unfold wc_X12_factors_37 at h
  refine tq_g_iinc (i := 4) (fun v101 => [.ref 51, .null, .int a2, .int a3, .int v101]) (by decide +kernel) rfl (1 : Int32) kc_1 (fun _ => rfl) (fun v101 ev101 => ?_)
  replace h := h v101 ev101
  refine tq_s_goto (off := -35) (tgt := 5) (by decide +kernel) (by decide +kernel) ?_
  exact hB5 _ _ _ h
def wb_X12_factors_11 (B5 : Int32 → Int32 → tq_S → Prop) (B11 : Int32 → tq_S → Prop) (Q : tq_O → tq_S → Prop) (a2 : Int32) (a3 : Int32) (a4 : Int32) (z : tq_S) : Prop := (¬ a4 = 0) ∧ ((¬ (a3 - a3 / a4 * a4) = 0 → wc_X12_factors_37 B5 Q a2 a3 a4 z) ∧ ((a3 - a3 / a4 * a4) = 0 → vp_in a4 24 ∧ vp_in a4 24 ∧ ∀ z101 : tq_S, z101 = tq_sai z 84 (upd (tq_ai z 84) (Int32.toNatClampNeg a4) ((tq_ai z 84 (Int32.toNatClampNeg a4)) + a2)) → (¬ a4 = 0) ∧ ∀ v102 : Int32, v102 = (a3 / a4) → B11 v102 z101))
def wc_X12_factors_11 (B5 : Int32 → Int32 → tq_S → Prop) (Q : tq_O → tq_S → Prop) (a2 : Int32) (a3 : Int32) (a4 : Int32) (z : tq_S) : Prop := tq_lp (σ := Int32 × tq_S) (fun B s => wb_X12_factors_11 B5 (fun b3 z => B (b3, z)) Q a2 s.1 a4 s.2) (a3, z)
theorem ab_X12_factors_11 {K : Nat × (Nat → Int32)} {x : Nat} {Q : tq_O → tq_S → Prop} {B5 : Int32 → Int32 → tq_S → Prop} {B11 : Int32 → tq_S → Prop} {a2 : Int32} {a3 : Int32} {a4 : Int32} {z : tq_S} (hB5 : ∀ (b3 : Int32) (b4 : Int32) (z : tq_S), B5 b3 b4 z → tq_T K 0 x mm_X12_factors 5 [.ref 51, .null, .int a2, .int b3, .int b4] [] z Q) (hB11 : ∀ (b3 : Int32) (z : tq_S), B11 b3 z → tq_T K 0 x mm_X12_factors 11 [.ref 51, .null, .int a2, .int b3, .int a4] [] z Q) (h : wb_X12_factors_11 B5 B11 Q a2 a3 a4 z) : tq_T K 0 x mm_X12_factors 11 [.ref 51, .null, .int a2, .int a3, .int a4] [] z Q := by
  unfold wb_X12_factors_11 at h
  refine tq_s_iload_n (kk := 3) (by decide +kernel) rfl ?_
  refine tq_s_iload (i := 4) (by decide +kernel) rfl ?_
  refine tq_s_irem (by decide +kernel) h.1 ?_
  replace h := h.2
  refine tq_if_ne (off := 22) (tgt := 37) (by decide +kernel) (by decide +kernel) (fun hc => ?_) (fun hc => ?_)
  · replace h := h.1 hc
    exact ac_X12_factors_37 hB5 h
  · replace h := h.2 hc
    refine tq_s_aload_n (kk := 0) (by decide +kernel) rfl ?_
    refine fg_12_119_51 rfl (by decide +kernel) ?_
    refine tq_s_iload (i := 4) (by decide +kernel) rfl ?_
    refine tq_s_dup2_11 (by decide +kernel) rfl rfl ?_
    refine tq_s_iald (by decide +kernel) sh_84 h.1 ?_
    replace h := h.2
    refine tq_s_iload_n (kk := 2) (by decide +kernel) rfl ?_
    refine tq_s_iadd (by decide +kernel) ?_
    refine tq_g_iast (by decide +kernel) sh_84 h.1 (fun z101 ez101 => ?_)
    replace h := h.2 z101 ez101
    refine tq_s_iload_n (kk := 3) (by decide +kernel) rfl ?_
    refine tq_s_iload (i := 4) (by decide +kernel) rfl ?_
    refine tq_s_idiv (by decide +kernel) h.1 ?_
    replace h := h.2
    refine tq_g_istore_n (kk := 3) (fun v102 => [.ref 51, .null, .int a2, .int v102, .int a4]) (by decide +kernel) (by decide) (fun _ => rfl) (fun v102 ev102 => ?_)
    replace h := h v102 ev102
    refine tq_s_goto (off := -23) (tgt := 11) (by decide +kernel) (by decide +kernel) ?_
    exact hB11 _ _ h
theorem ac_X12_factors_11 {K : Nat × (Nat → Int32)} {x : Nat} {Q : tq_O → tq_S → Prop} {B5 : Int32 → Int32 → tq_S → Prop} {a2 : Int32} {a3 : Int32} {a4 : Int32} {z : tq_S} (hB5 : ∀ (b3 : Int32) (b4 : Int32) (z : tq_S), B5 b3 b4 z → tq_T K 0 x mm_X12_factors 5 [.ref 51, .null, .int a2, .int b3, .int b4] [] z Q) (h : wc_X12_factors_11 B5 Q a2 a3 a4 z) : tq_T K 0 x mm_X12_factors 11 [.ref 51, .null, .int a2, .int a3, .int a4] [] z Q :=
  tq_lp_T (σ := Int32 × tq_S) (s := (a3, z)) (G := fun s => tq_T K 0 x mm_X12_factors 11 [.ref 51, .null, .int a2, .int s.1, .int a4] [] s.2 Q) (fun B hB s h => ab_X12_factors_11 hB5 (fun b3 z h => hB (b3, z) h) h) h
def wb_X12_factors_5 (B5 : Int32 → Int32 → tq_S → Prop) (Q : tq_O → tq_S → Prop) (a2 : Int32) (a3 : Int32) (a4 : Int32) (z : tq_S) : Prop := ((a3 < a4 → Q (.inl none) z) ∧ (¬ a3 < a4 → wc_X12_factors_11 B5 Q a2 a3 a4 z))
def wc_X12_factors_5 (Q : tq_O → tq_S → Prop) (a2 : Int32) (a3 : Int32) (a4 : Int32) (z : tq_S) : Prop := tq_lp (σ := Int32 × Int32 × tq_S) (fun B s => wb_X12_factors_5 (fun b3 b4 z => B (b3, b4, z)) Q a2 s.1 s.2.1 s.2.2) (a3, a4, z)
theorem ab_X12_factors_5 {K : Nat × (Nat → Int32)} {x : Nat} {Q : tq_O → tq_S → Prop} {B5 : Int32 → Int32 → tq_S → Prop} {a2 : Int32} {a3 : Int32} {a4 : Int32} {z : tq_S} (hB5 : ∀ (b3 : Int32) (b4 : Int32) (z : tq_S), B5 b3 b4 z → tq_T K 0 x mm_X12_factors 5 [.ref 51, .null, .int a2, .int b3, .int b4] [] z Q) (h : wb_X12_factors_5 B5 Q a2 a3 a4 z) : tq_T K 0 x mm_X12_factors 5 [.ref 51, .null, .int a2, .int a3, .int a4] [] z Q := by
  unfold wb_X12_factors_5 at h
  refine tq_s_iload (i := 4) (by decide +kernel) rfl ?_
  refine tq_s_iload_n (kk := 3) (by decide +kernel) rfl ?_
  refine tq_icmp_gt (off := 35) (tgt := 43) (by decide +kernel) (by decide +kernel) (fun hc => ?_) (fun hc => ?_)
  · replace h := h.1 hc
    exact tq_ret_v (st := []) (by decide +kernel) rfl h
  · replace h := h.2 hc
    exact ac_X12_factors_11 hB5 h
theorem ac_X12_factors_5 {K : Nat × (Nat → Int32)} {x : Nat} {Q : tq_O → tq_S → Prop} {a2 : Int32} {a3 : Int32} {a4 : Int32} {z : tq_S} (h : wc_X12_factors_5 Q a2 a3 a4 z) : tq_T K 0 x mm_X12_factors 5 [.ref 51, .null, .int a2, .int a3, .int a4] [] z Q :=
  tq_lp_T (σ := Int32 × Int32 × tq_S) (s := (a3, a4, z)) (G := fun s => tq_T K 0 x mm_X12_factors 5 [.ref 51, .null, .int a2, .int s.1, .int s.2.1] [] s.2.2 Q) (fun B hB s h => ab_X12_factors_5 (fun b3 b4 z h => hB (b3, b4, z) h) h) h
def wm_X12_factors (a1 : Int32) (a2 : Int32) (z : tq_S) (Q : tq_O → tq_S → Prop) : Prop := wc_X12_factors_5 Q a2 a1 (2 : Int32) z
theorem am_X12_factors {K : Nat × (Nat → Int32)} {x : Nat} {z : tq_S} {Q : tq_O → tq_S → Prop} {a1 : Int32} {a2 : Int32} (h : wm_X12_factors a1 a2 z Q) : tq_M K 0 x mm_X12_factors [.ref 51, .int a1, .int a2] z Q := by
  unfold wm_X12_factors at h
  refine tq_enter (L := [.ref 51, .int a1, .int a2, .null, .null]) mf_X12_factors.1 rfl rfl (Nat.le_of_ble_eq_true rfl) ?_
  refine tq_s_iload_n (kk := 1) (by decide +kernel) rfl ?_
  refine tq_s_istore_n (kk := 3) (L9 := [.ref 51, .int a1, .int a2, .int a1, .null]) (by decide +kernel) (by decide) rfl ?_
  refine tq_k_ic (n := 2) (v := (2 : Int32)) (by decide +kernel) kc_2 ?_
  refine tq_s_istore (i := 4) (L9 := [.ref 51, .int a1, .int a2, .int a1, .int (2 : Int32)]) (by decide +kernel) (by decide) rfl ?_
  exact tq_to (tq_lk1 (tq_ld1 (tq_lk1 (tq_lk1 (tq_lk1 tq_l0))))) (ac_X12_factors_5 h)
def wc_X12_heaps_132 (B72 : Int32 → tq_S → Prop) (B81 : Int32 → tq_S → Prop) (Q : tq_O → tq_S → Prop) (a1 : Int32) (a2 : Int32) (a3 : Int32) (a4 : Int32) (a5 : Int32) (z : tq_S) : Prop := ∀ v101 : Int32, v101 = a5 + (1 : Int32) → B81 v101 z
theorem ac_X12_heaps_132 {K : Nat × (Nat → Int32)} {x : Nat} {Q : tq_O → tq_S → Prop} {B72 : Int32 → tq_S → Prop} {B81 : Int32 → tq_S → Prop} {a1 : Int32} {a2 : Int32} {a3 : Int32} {a4 : Int32} {a5 : Int32} {z : tq_S} (hB72 : ∀ (b4 : Int32) (z : tq_S), B72 b4 z → tq_T K 42 x mm_X12_heaps 72 [.ref 51, .int a1, .int a2, .int a3, .int b4, .null, .null] [] z Q) (hB81 : ∀ (b5 : Int32) (z : tq_S), B81 b5 z → tq_T K 42 x mm_X12_heaps 81 [.ref 51, .int a1, .int a2, .int a3, .int a4, .int b5, .null] [] z Q) (h : wc_X12_heaps_132 B72 B81 Q a1 a2 a3 a4 a5 z) : tq_T K 42 x mm_X12_heaps 132 [.ref 51, .int a1, .int a2, .int a3, .int a4, .int a5, .null] [] z Q := by
  unfold wc_X12_heaps_132 at h
  refine tq_g_iinc (i := 5) (fun v101 => [.ref 51, .int a1, .int a2, .int a3, .int a4, .int v101, .null]) (by decide +kernel) rfl (1 : Int32) kc_1 (fun _ => rfl) (fun v101 ev101 => ?_)
  replace h := h v101 ev101
  refine tq_s_goto (off := -54) (tgt := 81) (by decide +kernel) (by decide +kernel) ?_
  exact hB81 _ _ h
def wb_X12_heaps_90 (B72 : Int32 → tq_S → Prop) (B81 : Int32 → tq_S → Prop) (B90 : Int32 → tq_S → Prop) (Q : tq_O → tq_S → Prop) (a1 : Int32) (a2 : Int32) (a3 : Int32) (a4 : Int32) (a5 : Int32) (a6 : Int32) (z : tq_S) : Prop := ((a3 < a6 → wc_X12_heaps_132 B72 B81 Q a1 a2 a3 a4 a5 z) ∧ (¬ a3 < a6 → wm_X12_factors (((a4 + a5) + a6) - (1 : Int32)) (1 : Int32) z (tq_wv fun z101 => wm_X12_factors (((a4 + a5) + a6) - (2 : Int32)) (-1 : Int32) z101 (tq_wv fun z102 => ∀ v103 : Int32, v103 = a6 + (1 : Int32) → B90 v103 z102))))
def wc_X12_heaps_90 (B72 : Int32 → tq_S → Prop) (B81 : Int32 → tq_S → Prop) (Q : tq_O → tq_S → Prop) (a1 : Int32) (a2 : Int32) (a3 : Int32) (a4 : Int32) (a5 : Int32) (a6 : Int32) (z : tq_S) : Prop := tq_lp (σ := Int32 × tq_S) (fun B s => wb_X12_heaps_90 B72 B81 (fun b6 z => B (b6, z)) Q a1 a2 a3 a4 a5 s.1 s.2) (a6, z)
theorem ab_X12_heaps_90 {K : Nat × (Nat → Int32)} {x : Nat} {Q : tq_O → tq_S → Prop} {B72 : Int32 → tq_S → Prop} {B81 : Int32 → tq_S → Prop} {B90 : Int32 → tq_S → Prop} {a1 : Int32} {a2 : Int32} {a3 : Int32} {a4 : Int32} {a5 : Int32} {a6 : Int32} {z : tq_S} (hB72 : ∀ (b4 : Int32) (z : tq_S), B72 b4 z → tq_T K 42 x mm_X12_heaps 72 [.ref 51, .int a1, .int a2, .int a3, .int b4, .null, .null] [] z Q) (hB81 : ∀ (b5 : Int32) (z : tq_S), B81 b5 z → tq_T K 42 x mm_X12_heaps 81 [.ref 51, .int a1, .int a2, .int a3, .int a4, .int b5, .null] [] z Q) (hB90 : ∀ (b6 : Int32) (z : tq_S), B90 b6 z → tq_T K 42 x mm_X12_heaps 90 [.ref 51, .int a1, .int a2, .int a3, .int a4, .int a5, .int b6] [] z Q) (h : wb_X12_heaps_90 B72 B81 B90 Q a1 a2 a3 a4 a5 a6 z) : tq_T K 42 x mm_X12_heaps 90 [.ref 51, .int a1, .int a2, .int a3, .int a4, .int a5, .int a6] [] z Q := by
  unfold wb_X12_heaps_90 at h
  refine tq_s_iload (i := 6) (by decide +kernel) rfl ?_
  refine tq_s_iload_n (kk := 3) (by decide +kernel) rfl ?_
  refine tq_icmp_gt (off := 39) (tgt := 132) (by decide +kernel) (by decide +kernel) (fun hc => ?_) (fun hc => ?_)
  · replace h := h.1 hc
    exact tq_to (tq_lk1 (tq_lk1 (tq_lk1 (tq_lk1 (tq_lk1 (tq_lk1 (tq_ld1 tq_l0))))))) (ac_X12_heaps_132 hB72 hB81 h)
  · replace h := h.2 hc
    refine tq_s_aload_n (kk := 0) (by decide +kernel) rfl ?_
    refine tq_s_iload (i := 4) (by decide +kernel) rfl ?_
    refine tq_s_iload (i := 5) (by decide +kernel) rfl ?_
    refine tq_s_iadd (by decide +kernel) ?_
    refine tq_s_iload (i := 6) (by decide +kernel) rfl ?_
    refine tq_s_iadd (by decide +kernel) ?_
    refine tq_k_ic (n := 1) (v := (1 : Int32)) (by decide +kernel) kc_1 ?_
    refine tq_s_isub (by decide +kernel) ?_
    refine tq_k_ic (n := 1) (v := (1 : Int32)) (by decide +kernel) kc_1 ?_
    refine tq_callV (as := [.int (((a4 + a5) + a6) - (1 : Int32)), .int (1 : Int32)]) (st := []) (d1 := 0) (x1 := 0) (x2 := x) (by decide +kernel) ln_12_445 mf_X12_factors rfl sh_51 rfl (by decide) np_X12_factors rfl (Nat.le_of_ble_eq_true rfl) (by decide) (Nat.zero_add _).symm (tq_M_mono (am_X12_factors h) ?_)
    refine tq_wv_e (fun z101 h => ?_)
    refine tq_s_aload_n (kk := 0) (by decide +kernel) rfl ?_
    refine tq_s_iload (i := 4) (by decide +kernel) rfl ?_
    refine tq_s_iload (i := 5) (by decide +kernel) rfl ?_
    refine tq_s_iadd (by decide +kernel) ?_
    refine tq_s_iload (i := 6) (by decide +kernel) rfl ?_
    refine tq_s_iadd (by decide +kernel) ?_
    refine tq_k_ic (n := 2) (v := (2 : Int32)) (by decide +kernel) kc_2 ?_
    refine tq_s_isub (by decide +kernel) ?_
    refine tq_k_ic (n := -1) (v := (-1 : Int32)) (by decide +kernel) kc_m1 ?_
    refine tq_callV (as := [.int (((a4 + a5) + a6) - (2 : Int32)), .int (-1 : Int32)]) (st := []) (d1 := 0) (x1 := 0) (x2 := x) (by decide +kernel) ln_12_445 mf_X12_factors rfl sh_51 rfl (by decide) np_X12_factors rfl (Nat.le_of_ble_eq_true rfl) (by decide) (Nat.zero_add _).symm (tq_M_mono (am_X12_factors h) ?_)
    refine tq_wv_e (fun z102 h => ?_)
    refine tq_g_iinc (i := 6) (fun v103 => [.ref 51, .int a1, .int a2, .int a3, .int a4, .int a5, .int v103]) (by decide +kernel) rfl (1 : Int32) kc_1 (fun _ => rfl) (fun v103 ev103 => ?_)
    replace h := h v103 ev103
    refine tq_s_goto (off := -39) (tgt := 90) (by decide +kernel) (by decide +kernel) ?_
    exact hB90 _ _ h
theorem ac_X12_heaps_90 {K : Nat × (Nat → Int32)} {x : Nat} {Q : tq_O → tq_S → Prop} {B72 : Int32 → tq_S → Prop} {B81 : Int32 → tq_S → Prop} {a1 : Int32} {a2 : Int32} {a3 : Int32} {a4 : Int32} {a5 : Int32} {a6 : Int32} {z : tq_S} (hB72 : ∀ (b4 : Int32) (z : tq_S), B72 b4 z → tq_T K 42 x mm_X12_heaps 72 [.ref 51, .int a1, .int a2, .int a3, .int b4, .null, .null] [] z Q) (hB81 : ∀ (b5 : Int32) (z : tq_S), B81 b5 z → tq_T K 42 x mm_X12_heaps 81 [.ref 51, .int a1, .int a2, .int a3, .int a4, .int b5, .null] [] z Q) (h : wc_X12_heaps_90 B72 B81 Q a1 a2 a3 a4 a5 a6 z) : tq_T K 42 x mm_X12_heaps 90 [.ref 51, .int a1, .int a2, .int a3, .int a4, .int a5, .int a6] [] z Q :=
  tq_lp_T (σ := Int32 × tq_S) (s := (a6, z)) (G := fun s => tq_T K 42 x mm_X12_heaps 90 [.ref 51, .int a1, .int a2, .int a3, .int a4, .int a5, .int s.1] [] s.2 Q) (fun B hB s h => ab_X12_heaps_90 hB72 hB81 (fun b6 z h => hB (b6, z) h) h) h
def wc_X12_heaps_138 (B72 : Int32 → tq_S → Prop) (Q : tq_O → tq_S → Prop) (a1 : Int32) (a2 : Int32) (a3 : Int32) (a4 : Int32) (z : tq_S) : Prop := ∀ v101 : Int32, v101 = a4 + (1 : Int32) → B72 v101 z
theorem ac_X12_heaps_138 {K : Nat × (Nat → Int32)} {x : Nat} {Q : tq_O → tq_S → Prop} {B72 : Int32 → tq_S → Prop} {a1 : Int32} {a2 : Int32} {a3 : Int32} {a4 : Int32} {z : tq_S} (hB72 : ∀ (b4 : Int32) (z : tq_S), B72 b4 z → tq_T K 42 x mm_X12_heaps 72 [.ref 51, .int a1, .int a2, .int a3, .int b4, .null, .null] [] z Q) (h : wc_X12_heaps_138 B72 Q a1 a2 a3 a4 z) : tq_T K 42 x mm_X12_heaps 138 [.ref 51, .int a1, .int a2, .int a3, .int a4, .null, .null] [] z Q := by
  unfold wc_X12_heaps_138 at h
  refine tq_g_iinc (i := 4) (fun v101 => [.ref 51, .int a1, .int a2, .int a3, .int v101, .null, .null]) (by decide +kernel) rfl (1 : Int32) kc_1 (fun _ => rfl) (fun v101 ev101 => ?_)
  replace h := h v101 ev101
  refine tq_s_goto (off := -69) (tgt := 72) (by decide +kernel) (by decide +kernel) ?_
  exact hB72 _ _ h
def wb_X12_heaps_81 (B72 : Int32 → tq_S → Prop) (B81 : Int32 → tq_S → Prop) (Q : tq_O → tq_S → Prop) (a1 : Int32) (a2 : Int32) (a3 : Int32) (a4 : Int32) (a5 : Int32) (z : tq_S) : Prop := ((a2 < a5 → wc_X12_heaps_138 B72 Q a1 a2 a3 a4 z) ∧ (¬ a2 < a5 → wc_X12_heaps_90 B72 B81 Q a1 a2 a3 a4 a5 (1 : Int32) z))
def wc_X12_heaps_81 (B72 : Int32 → tq_S → Prop) (Q : tq_O → tq_S → Prop) (a1 : Int32) (a2 : Int32) (a3 : Int32) (a4 : Int32) (a5 : Int32) (z : tq_S) : Prop := tq_lp (σ := Int32 × tq_S) (fun B s => wb_X12_heaps_81 B72 (fun b5 z => B (b5, z)) Q a1 a2 a3 a4 s.1 s.2) (a5, z)
theorem ab_X12_heaps_81 {K : Nat × (Nat → Int32)} {x : Nat} {Q : tq_O → tq_S → Prop} {B72 : Int32 → tq_S → Prop} {B81 : Int32 → tq_S → Prop} {a1 : Int32} {a2 : Int32} {a3 : Int32} {a4 : Int32} {a5 : Int32} {z : tq_S} (hB72 : ∀ (b4 : Int32) (z : tq_S), B72 b4 z → tq_T K 42 x mm_X12_heaps 72 [.ref 51, .int a1, .int a2, .int a3, .int b4, .null, .null] [] z Q) (hB81 : ∀ (b5 : Int32) (z : tq_S), B81 b5 z → tq_T K 42 x mm_X12_heaps 81 [.ref 51, .int a1, .int a2, .int a3, .int a4, .int b5, .null] [] z Q) (h : wb_X12_heaps_81 B72 B81 Q a1 a2 a3 a4 a5 z) : tq_T K 42 x mm_X12_heaps 81 [.ref 51, .int a1, .int a2, .int a3, .int a4, .int a5, .null] [] z Q := by
  unfold wb_X12_heaps_81 at h
  refine tq_s_iload (i := 5) (by decide +kernel) rfl ?_
  refine tq_s_iload_n (kk := 2) (by decide +kernel) rfl ?_
  refine tq_icmp_gt (off := 54) (tgt := 138) (by decide +kernel) (by decide +kernel) (fun hc => ?_) (fun hc => ?_)
  · replace h := h.1 hc
    exact tq_to (tq_lk1 (tq_lk1 (tq_lk1 (tq_lk1 (tq_lk1 (tq_ld1 (tq_lk1 tq_l0))))))) (ac_X12_heaps_138 hB72 h)
  · replace h := h.2 hc
    refine tq_k_ic (n := 1) (v := (1 : Int32)) (by decide +kernel) kc_1 ?_
    refine tq_s_istore (i := 6) (L9 := [.ref 51, .int a1, .int a2, .int a3, .int a4, .int a5, .int (1 : Int32)]) (by decide +kernel) (by decide) rfl ?_
    exact ac_X12_heaps_90 hB72 hB81 h
theorem ac_X12_heaps_81 {K : Nat × (Nat → Int32)} {x : Nat} {Q : tq_O → tq_S → Prop} {B72 : Int32 → tq_S → Prop} {a1 : Int32} {a2 : Int32} {a3 : Int32} {a4 : Int32} {a5 : Int32} {z : tq_S} (hB72 : ∀ (b4 : Int32) (z : tq_S), B72 b4 z → tq_T K 42 x mm_X12_heaps 72 [.ref 51, .int a1, .int a2, .int a3, .int b4, .null, .null] [] z Q) (h : wc_X12_heaps_81 B72 Q a1 a2 a3 a4 a5 z) : tq_T K 42 x mm_X12_heaps 81 [.ref 51, .int a1, .int a2, .int a3, .int a4, .int a5, .null] [] z Q :=
  tq_lp_T (σ := Int32 × tq_S) (s := (a5, z)) (G := fun s => tq_T K 42 x mm_X12_heaps 81 [.ref 51, .int a1, .int a2, .int a3, .int a4, .int s.1, .null] [] s.2 Q) (fun B hB s h => ab_X12_heaps_81 hB72 (fun b5 z h => hB (b5, z) h) h) h
def wc_X12_heaps_170 (B147 : Int32 → tq_S → Prop) (Q : tq_O → tq_S → Prop) (a4 : Int32) (s0 : Int64) (s1 : Int32) (z : tq_S) : Prop := vp_in s1 40 ∧ ∀ z101 : tq_S, z101 = tq_sal z 83 (vp_updL (tq_al z 83) (Int32.toNatClampNeg s1) s0) → ∀ v102 : Int32, v102 = a4 + (1 : Int32) → B147 v102 z101
theorem ac_X12_heaps_170 {K : Nat × (Nat → Int32)} {x : Nat} {Q : tq_O → tq_S → Prop} {B147 : Int32 → tq_S → Prop} {a4 : Int32} {s0 : Int64} {s1 : Int32} {z : tq_S} (hB147 : ∀ (b4 : Int32) (z : tq_S), B147 b4 z → tq_T K 42 x mm_X12_heaps 147 [.ref 51, .null, .null, .null, .int b4, .null, .null] [] z Q) (h : wc_X12_heaps_170 B147 Q a4 s0 s1 z) : tq_T K 42 x mm_X12_heaps 170 [.ref 51, .null, .null, .null, .int a4, .null, .null] [.long s0, .int s1, .ref 83] z Q := by
  unfold wc_X12_heaps_170 at h
  refine tq_g_last (by decide +kernel) sh_83 h.1 (fun z101 ez101 => ?_)
  replace h := h.2 z101 ez101
  refine tq_g_iinc (i := 4) (fun v102 => [.ref 51, .null, .null, .null, .int v102, .null, .null]) (by decide +kernel) rfl (1 : Int32) kc_1 (fun _ => rfl) (fun v102 ev102 => ?_)
  replace h := h v102 ev102
  refine tq_s_goto (off := -27) (tgt := 147) (by decide +kernel) (by decide +kernel) ?_
  exact hB147 _ _ h
def wc_X12_heaps_231 (B180 : Int32 → tq_S → Prop) (B190 : Int32 → tq_S → Prop) (Q : tq_O → tq_S → Prop) (a4 : Int32) (a5 : Int32) (z : tq_S) : Prop := wm_X12_carry z (tq_wv fun z101 => ∀ v102 : Int32, v102 = a5 + (1 : Int32) → B190 v102 z101)
theorem ac_X12_heaps_231 {K : Nat × (Nat → Int32)} {x : Nat} {Q : tq_O → tq_S → Prop} {B180 : Int32 → tq_S → Prop} {B190 : Int32 → tq_S → Prop} {a4 : Int32} {a5 : Int32} {z : tq_S} (hB180 : ∀ (b4 : Int32) (z : tq_S), B180 b4 z → tq_T K 42 x mm_X12_heaps 180 [.ref 51, .null, .null, .null, .int b4, .null, .null] [] z Q) (hB190 : ∀ (b5 : Int32) (z : tq_S), B190 b5 z → tq_T K 42 x mm_X12_heaps 190 [.ref 51, .null, .null, .null, .int a4, .int b5, .null] [] z Q) (h : wc_X12_heaps_231 B180 B190 Q a4 a5 z) : tq_T K 42 x mm_X12_heaps 231 [.ref 51, .null, .null, .null, .int a4, .int a5, .null] [] z Q := by
  unfold wc_X12_heaps_231 at h
  refine tq_s_aload_n (kk := 0) (by decide +kernel) rfl ?_
  refine tq_callV (as := []) (st := []) (d1 := 0) (x1 := 0) (x2 := x) (by decide +kernel) ln_12_437 mf_X12_carry rfl sh_51 rfl (by decide) np_X12_carry rfl (Nat.le_of_ble_eq_true rfl) (by decide) (Nat.zero_add _).symm (tq_M_mono (am_X12_carry h) ?_)
  refine tq_wv_e (fun z101 h => ?_)
  refine tq_g_iinc (i := 5) (fun v102 => [.ref 51, .null, .null, .null, .int a4, .int v102, .null]) (by decide +kernel) rfl (1 : Int32) kc_1 (fun _ => rfl) (fun v102 ev102 => ?_)
  replace h := h v102 ev102
  refine tq_s_goto (off := -48) (tgt := 190) (by decide +kernel) (by decide +kernel) ?_
  exact hB190 _ _ h
def wb_X12_heaps_205 (B180 : Int32 → tq_S → Prop) (B190 : Int32 → tq_S → Prop) (B205 : Int32 → tq_S → Prop) (Q : tq_O → tq_S → Prop) (a4 : Int32) (a5 : Int32) (a6 : Int32) (z : tq_S) : Prop := (((40 : Int32) ≤ a6 → wc_X12_heaps_231 B180 B190 Q a4 a5 z) ∧ (¬ (40 : Int32) ≤ a6 → vp_in a6 40 ∧ vp_in a6 40 ∧ ∀ z101 : tq_S, z101 = tq_sal z 83 (vp_updL (tq_al z 83) (Int32.toNatClampNeg a6) ((tq_al z 83 (Int32.toNatClampNeg a6)) * (Int32.toInt64 a4))) → ∀ v102 : Int32, v102 = a6 + (1 : Int32) → B205 v102 z101))
def wc_X12_heaps_205 (B180 : Int32 → tq_S → Prop) (B190 : Int32 → tq_S → Prop) (Q : tq_O → tq_S → Prop) (a4 : Int32) (a5 : Int32) (a6 : Int32) (z : tq_S) : Prop := tq_lp (σ := Int32 × tq_S) (fun B s => wb_X12_heaps_205 B180 B190 (fun b6 z => B (b6, z)) Q a4 a5 s.1 s.2) (a6, z)
theorem ab_X12_heaps_205 {K : Nat × (Nat → Int32)} {x : Nat} {Q : tq_O → tq_S → Prop} {B180 : Int32 → tq_S → Prop} {B190 : Int32 → tq_S → Prop} {B205 : Int32 → tq_S → Prop} {a4 : Int32} {a5 : Int32} {a6 : Int32} {z : tq_S} (hB180 : ∀ (b4 : Int32) (z : tq_S), B180 b4 z → tq_T K 42 x mm_X12_heaps 180 [.ref 51, .null, .null, .null, .int b4, .null, .null] [] z Q) (hB190 : ∀ (b5 : Int32) (z : tq_S), B190 b5 z → tq_T K 42 x mm_X12_heaps 190 [.ref 51, .null, .null, .null, .int a4, .int b5, .null] [] z Q) (hB205 : ∀ (b6 : Int32) (z : tq_S), B205 b6 z → tq_T K 42 x mm_X12_heaps 205 [.ref 51, .null, .null, .null, .int a4, .int a5, .int b6] [] z Q) (h : wb_X12_heaps_205 B180 B190 B205 Q a4 a5 a6 z) : tq_T K 42 x mm_X12_heaps 205 [.ref 51, .null, .null, .null, .int a4, .int a5, .int a6] [] z Q := by
  unfold wb_X12_heaps_205 at h
  refine tq_s_iload (i := 6) (by decide +kernel) rfl ?_
  refine tq_k_bi (n := 40) (v := (40 : Int32)) (by decide +kernel) kb_40 ?_
  refine tq_icmp_ge (off := 22) (tgt := 231) (by decide +kernel) (by decide +kernel) (fun hc => ?_) (fun hc => ?_)
  · replace h := h.1 hc
    exact tq_to (tq_lk1 (tq_lk1 (tq_lk1 (tq_lk1 (tq_lk1 (tq_lk1 (tq_ld1 tq_l0))))))) (ac_X12_heaps_231 hB180 hB190 h)
  · replace h := h.2 hc
    refine tq_s_aload_n (kk := 0) (by decide +kernel) rfl ?_
    refine fg_12_116_51 rfl (by decide +kernel) ?_
    refine tq_s_iload (i := 6) (by decide +kernel) rfl ?_
    refine tq_s_dup2_11 (by decide +kernel) rfl rfl ?_
    refine tq_s_lald (by decide +kernel) sh_83 h.1 ?_
    replace h := h.2
    refine tq_s_iload (i := 4) (by decide +kernel) rfl ?_
    refine tq_s_i2l (by decide +kernel) ?_
    refine tq_s_lmul (by decide +kernel) ?_
    refine tq_g_last (by decide +kernel) sh_83 h.1 (fun z101 ez101 => ?_)
    replace h := h.2 z101 ez101
    refine tq_g_iinc (i := 6) (fun v102 => [.ref 51, .null, .null, .null, .int a4, .int a5, .int v102]) (by decide +kernel) rfl (1 : Int32) kc_1 (fun _ => rfl) (fun v102 ev102 => ?_)
    replace h := h v102 ev102
    refine tq_s_goto (off := -23) (tgt := 205) (by decide +kernel) (by decide +kernel) ?_
    exact hB205 _ _ h
theorem ac_X12_heaps_205 {K : Nat × (Nat → Int32)} {x : Nat} {Q : tq_O → tq_S → Prop} {B180 : Int32 → tq_S → Prop} {B190 : Int32 → tq_S → Prop} {a4 : Int32} {a5 : Int32} {a6 : Int32} {z : tq_S} (hB180 : ∀ (b4 : Int32) (z : tq_S), B180 b4 z → tq_T K 42 x mm_X12_heaps 180 [.ref 51, .null, .null, .null, .int b4, .null, .null] [] z Q) (hB190 : ∀ (b5 : Int32) (z : tq_S), B190 b5 z → tq_T K 42 x mm_X12_heaps 190 [.ref 51, .null, .null, .null, .int a4, .int b5, .null] [] z Q) (h : wc_X12_heaps_205 B180 B190 Q a4 a5 a6 z) : tq_T K 42 x mm_X12_heaps 205 [.ref 51, .null, .null, .null, .int a4, .int a5, .int a6] [] z Q :=
  tq_lp_T (σ := Int32 × tq_S) (s := (a6, z)) (G := fun s => tq_T K 42 x mm_X12_heaps 205 [.ref 51, .null, .null, .null, .int a4, .int a5, .int s.1] [] s.2 Q) (fun B hB s h => ab_X12_heaps_205 hB180 hB190 (fun b6 z h => hB (b6, z) h) h) h
def wc_X12_heaps_241 (B180 : Int32 → tq_S → Prop) (Q : tq_O → tq_S → Prop) (a4 : Int32) (z : tq_S) : Prop := ∀ v101 : Int32, v101 = a4 + (1 : Int32) → B180 v101 z
theorem ac_X12_heaps_241 {K : Nat × (Nat → Int32)} {x : Nat} {Q : tq_O → tq_S → Prop} {B180 : Int32 → tq_S → Prop} {a4 : Int32} {z : tq_S} (hB180 : ∀ (b4 : Int32) (z : tq_S), B180 b4 z → tq_T K 42 x mm_X12_heaps 180 [.ref 51, .null, .null, .null, .int b4, .null, .null] [] z Q) (h : wc_X12_heaps_241 B180 Q a4 z) : tq_T K 42 x mm_X12_heaps 241 [.ref 51, .null, .null, .null, .int a4, .null, .null] [] z Q := by
  unfold wc_X12_heaps_241 at h
  refine tq_g_iinc (i := 4) (fun v101 => [.ref 51, .null, .null, .null, .int v101, .null, .null]) (by decide +kernel) rfl (1 : Int32) kc_1 (fun _ => rfl) (fun v101 ev101 => ?_)
  replace h := h v101 ev101
  refine tq_s_goto (off := -64) (tgt := 180) (by decide +kernel) (by decide +kernel) ?_
  exact hB180 _ _ h
def wb_X12_heaps_190 (B180 : Int32 → tq_S → Prop) (B190 : Int32 → tq_S → Prop) (Q : tq_O → tq_S → Prop) (a4 : Int32) (a5 : Int32) (z : tq_S) : Prop := vp_in a4 24 ∧ (((tq_ai z 84 (Int32.toNatClampNeg a4)) ≤ a5 → wc_X12_heaps_241 B180 Q a4 z) ∧ (¬ (tq_ai z 84 (Int32.toNatClampNeg a4)) ≤ a5 → wc_X12_heaps_205 B180 B190 Q a4 a5 (0 : Int32) z))
def wc_X12_heaps_190 (B180 : Int32 → tq_S → Prop) (Q : tq_O → tq_S → Prop) (a4 : Int32) (a5 : Int32) (z : tq_S) : Prop := tq_lp (σ := Int32 × tq_S) (fun B s => wb_X12_heaps_190 B180 (fun b5 z => B (b5, z)) Q a4 s.1 s.2) (a5, z)
theorem ab_X12_heaps_190 {K : Nat × (Nat → Int32)} {x : Nat} {Q : tq_O → tq_S → Prop} {B180 : Int32 → tq_S → Prop} {B190 : Int32 → tq_S → Prop} {a4 : Int32} {a5 : Int32} {z : tq_S} (hB180 : ∀ (b4 : Int32) (z : tq_S), B180 b4 z → tq_T K 42 x mm_X12_heaps 180 [.ref 51, .null, .null, .null, .int b4, .null, .null] [] z Q) (hB190 : ∀ (b5 : Int32) (z : tq_S), B190 b5 z → tq_T K 42 x mm_X12_heaps 190 [.ref 51, .null, .null, .null, .int a4, .int b5, .null] [] z Q) (h : wb_X12_heaps_190 B180 B190 Q a4 a5 z) : tq_T K 42 x mm_X12_heaps 190 [.ref 51, .null, .null, .null, .int a4, .int a5, .null] [] z Q := by
  unfold wb_X12_heaps_190 at h
  refine tq_s_iload (i := 5) (by decide +kernel) rfl ?_
  refine tq_s_aload_n (kk := 0) (by decide +kernel) rfl ?_
  refine fg_12_119_51 rfl (by decide +kernel) ?_
  refine tq_s_iload (i := 4) (by decide +kernel) rfl ?_
  refine tq_s_iald (by decide +kernel) sh_84 h.1 ?_
  replace h := h.2
  refine tq_icmp_ge (off := 42) (tgt := 241) (by decide +kernel) (by decide +kernel) (fun hc => ?_) (fun hc => ?_)
  · replace h := h.1 hc
    exact tq_to (tq_lk1 (tq_lk1 (tq_lk1 (tq_lk1 (tq_lk1 (tq_ld1 (tq_lk1 tq_l0))))))) (ac_X12_heaps_241 hB180 h)
  · replace h := h.2 hc
    refine tq_k_ic (n := 0) (v := (0 : Int32)) (by decide +kernel) kc_0 ?_
    refine tq_s_istore (i := 6) (L9 := [.ref 51, .null, .null, .null, .int a4, .int a5, .int (0 : Int32)]) (by decide +kernel) (by decide) rfl ?_
    exact ac_X12_heaps_205 hB180 hB190 h
theorem ac_X12_heaps_190 {K : Nat × (Nat → Int32)} {x : Nat} {Q : tq_O → tq_S → Prop} {B180 : Int32 → tq_S → Prop} {a4 : Int32} {a5 : Int32} {z : tq_S} (hB180 : ∀ (b4 : Int32) (z : tq_S), B180 b4 z → tq_T K 42 x mm_X12_heaps 180 [.ref 51, .null, .null, .null, .int b4, .null, .null] [] z Q) (h : wc_X12_heaps_190 B180 Q a4 a5 z) : tq_T K 42 x mm_X12_heaps 190 [.ref 51, .null, .null, .null, .int a4, .int a5, .null] [] z Q :=
  tq_lp_T (σ := Int32 × tq_S) (s := (a5, z)) (G := fun s => tq_T K 42 x mm_X12_heaps 190 [.ref 51, .null, .null, .null, .int a4, .int s.1, .null] [] s.2 Q) (fun B hB s h => ab_X12_heaps_190 hB180 (fun b5 z h => hB (b5, z) h) h) h
def wc_X12_heaps_247 (Q : tq_O → tq_S → Prop)  (z : tq_S) : Prop := wm_X12_putSum z (tq_wi fun r102 z101 => Q (.inl (some (.int r102))) z101)
theorem ac_X12_heaps_247 {K : Nat × (Nat → Int32)} {x : Nat} {Q : tq_O → tq_S → Prop}  {z : tq_S} (h : wc_X12_heaps_247 Q z) : tq_T K 42 x mm_X12_heaps 247 [.ref 51, .null, .null, .null, .null, .null, .null] [] z Q := by
  unfold wc_X12_heaps_247 at h
  refine tq_s_aload_n (kk := 0) (by decide +kernel) rfl ?_
  refine tq_callV (as := []) (st := []) (d1 := 41) (x1 := 0) (x2 := x) (by decide +kernel) ln_12_440 mf_X12_putSum rfl sh_51 rfl (by decide) np_X12_putSum rfl (Nat.le_of_ble_eq_true rfl) (by decide) (Nat.zero_add _).symm (tq_M_mono (am_X12_putSum h) ?_)
  refine tq_wi_e (fun r102 z101 h => ?_)
  exact tq_ret_i (st := []) (by decide +kernel) rfl h
def wb_X12_heaps_180 (B180 : Int32 → tq_S → Prop) (Q : tq_O → tq_S → Prop) (a4 : Int32) (z : tq_S) : Prop := (((24 : Int32) ≤ a4 → wc_X12_heaps_247 Q z) ∧ (¬ (24 : Int32) ≤ a4 → wc_X12_heaps_190 B180 Q a4 (0 : Int32) z))
def wc_X12_heaps_180 (Q : tq_O → tq_S → Prop) (a4 : Int32) (z : tq_S) : Prop := tq_lp (σ := Int32 × tq_S) (fun B s => wb_X12_heaps_180 (fun b4 z => B (b4, z)) Q s.1 s.2) (a4, z)
theorem ab_X12_heaps_180 {K : Nat × (Nat → Int32)} {x : Nat} {Q : tq_O → tq_S → Prop} {B180 : Int32 → tq_S → Prop} {a4 : Int32} {z : tq_S} (hB180 : ∀ (b4 : Int32) (z : tq_S), B180 b4 z → tq_T K 42 x mm_X12_heaps 180 [.ref 51, .null, .null, .null, .int b4, .null, .null] [] z Q) (h : wb_X12_heaps_180 B180 Q a4 z) : tq_T K 42 x mm_X12_heaps 180 [.ref 51, .null, .null, .null, .int a4, .null, .null] [] z Q := by
  unfold wb_X12_heaps_180 at h
  refine tq_s_iload (i := 4) (by decide +kernel) rfl ?_
  refine tq_k_bi (n := 24) (v := (24 : Int32)) (by decide +kernel) kb_24 ?_
  refine tq_icmp_ge (off := 63) (tgt := 247) (by decide +kernel) (by decide +kernel) (fun hc => ?_) (fun hc => ?_)
  · replace h := h.1 hc
    exact tq_to (tq_lk1 (tq_lk1 (tq_lk1 (tq_lk1 (tq_ld1 (tq_lk1 (tq_lk1 tq_l0))))))) (ac_X12_heaps_247 h)
  · replace h := h.2 hc
    refine tq_k_ic (n := 0) (v := (0 : Int32)) (by decide +kernel) kc_0 ?_
    refine tq_s_istore (i := 5) (L9 := [.ref 51, .null, .null, .null, .int a4, .int (0 : Int32), .null]) (by decide +kernel) (by decide) rfl ?_
    exact ac_X12_heaps_190 hB180 h
theorem ac_X12_heaps_180 {K : Nat × (Nat → Int32)} {x : Nat} {Q : tq_O → tq_S → Prop} {a4 : Int32} {z : tq_S} (h : wc_X12_heaps_180 Q a4 z) : tq_T K 42 x mm_X12_heaps 180 [.ref 51, .null, .null, .null, .int a4, .null, .null] [] z Q :=
  tq_lp_T (σ := Int32 × tq_S) (s := (a4, z)) (G := fun s => tq_T K 42 x mm_X12_heaps 180 [.ref 51, .null, .null, .null, .int s.1, .null, .null] [] s.2 Q) (fun B hB s h => ab_X12_heaps_180 (fun b4 z h => hB (b4, z) h) h) h
def wc_X12_heaps_177 (Q : tq_O → tq_S → Prop)  (z : tq_S) : Prop := wc_X12_heaps_180 Q (2 : Int32) z
theorem ac_X12_heaps_177 {K : Nat × (Nat → Int32)} {x : Nat} {Q : tq_O → tq_S → Prop}  {z : tq_S} (h : wc_X12_heaps_177 Q z) : tq_T K 42 x mm_X12_heaps 177 [.ref 51, .null, .null, .null, .null, .null, .null] [] z Q := by
  unfold wc_X12_heaps_177 at h
  refine tq_k_ic (n := 2) (v := (2 : Int32)) (by decide +kernel) kc_2 ?_
  refine tq_s_istore (i := 4) (L9 := [.ref 51, .null, .null, .null, .int (2 : Int32), .null, .null]) (by decide +kernel) (by decide) rfl ?_
  exact ac_X12_heaps_180 h
def wb_X12_heaps_147 (B147 : Int32 → tq_S → Prop) (Q : tq_O → tq_S → Prop) (a4 : Int32) (z : tq_S) : Prop := (((40 : Int32) ≤ a4 → wc_X12_heaps_177 Q z) ∧ (¬ (40 : Int32) ≤ a4 → ((¬ a4 = 0 → wc_X12_heaps_170 B147 Q a4 (0 : Int64) a4 z) ∧ (a4 = 0 → wc_X12_heaps_170 B147 Q a4 (1 : Int64) a4 z))))
def wc_X12_heaps_147 (Q : tq_O → tq_S → Prop) (a4 : Int32) (z : tq_S) : Prop := tq_lp (σ := Int32 × tq_S) (fun B s => wb_X12_heaps_147 (fun b4 z => B (b4, z)) Q s.1 s.2) (a4, z)
theorem ab_X12_heaps_147 {K : Nat × (Nat → Int32)} {x : Nat} {Q : tq_O → tq_S → Prop} {B147 : Int32 → tq_S → Prop} {a4 : Int32} {z : tq_S} (hB147 : ∀ (b4 : Int32) (z : tq_S), B147 b4 z → tq_T K 42 x mm_X12_heaps 147 [.ref 51, .null, .null, .null, .int b4, .null, .null] [] z Q) (h : wb_X12_heaps_147 B147 Q a4 z) : tq_T K 42 x mm_X12_heaps 147 [.ref 51, .null, .null, .null, .int a4, .null, .null] [] z Q := by
  unfold wb_X12_heaps_147 at h
  refine tq_s_iload (i := 4) (by decide +kernel) rfl ?_
  refine tq_k_bi (n := 40) (v := (40 : Int32)) (by decide +kernel) kb_40 ?_
  refine tq_icmp_ge (off := 26) (tgt := 177) (by decide +kernel) (by decide +kernel) (fun hc => ?_) (fun hc => ?_)
  · replace h := h.1 hc
    exact tq_to (tq_lk1 (tq_lk1 (tq_lk1 (tq_lk1 (tq_ld1 (tq_lk1 (tq_lk1 tq_l0))))))) (ac_X12_heaps_177 h)
  · replace h := h.2 hc
    refine tq_s_aload_n (kk := 0) (by decide +kernel) rfl ?_
    refine fg_12_116_51 rfl (by decide +kernel) ?_
    refine tq_s_iload (i := 4) (by decide +kernel) rfl ?_
    refine tq_s_iload (i := 4) (by decide +kernel) rfl ?_
    refine tq_if_ne (off := 7) (tgt := 169) (by decide +kernel) (by decide +kernel) (fun hc => ?_) (fun hc => ?_)
    · replace h := h.1 hc
      refine tq_k_lc (n := 0) (v := (0 : Int64)) (by decide +kernel) (by decide +kernel) ?_
      exact ac_X12_heaps_170 hB147 h
    · replace h := h.2 hc
      refine tq_k_lc (n := 1) (v := (1 : Int64)) (by decide +kernel) (by decide +kernel) ?_
      refine tq_s_goto (off := 4) (tgt := 170) (by decide +kernel) (by decide +kernel) ?_
      exact ac_X12_heaps_170 hB147 h
theorem ac_X12_heaps_147 {K : Nat × (Nat → Int32)} {x : Nat} {Q : tq_O → tq_S → Prop} {a4 : Int32} {z : tq_S} (h : wc_X12_heaps_147 Q a4 z) : tq_T K 42 x mm_X12_heaps 147 [.ref 51, .null, .null, .null, .int a4, .null, .null] [] z Q :=
  tq_lp_T (σ := Int32 × tq_S) (s := (a4, z)) (G := fun s => tq_T K 42 x mm_X12_heaps 147 [.ref 51, .null, .null, .null, .int s.1, .null, .null] [] s.2 Q) (fun B hB s h => ab_X12_heaps_147 (fun b4 z h => hB (b4, z) h) h) h
def wc_X12_heaps_144 (Q : tq_O → tq_S → Prop)  (z : tq_S) : Prop := wc_X12_heaps_147 Q (0 : Int32) z
theorem ac_X12_heaps_144 {K : Nat × (Nat → Int32)} {x : Nat} {Q : tq_O → tq_S → Prop}  {z : tq_S} (h : wc_X12_heaps_144 Q z) : tq_T K 42 x mm_X12_heaps 144 [.ref 51, .null, .null, .null, .null, .null, .null] [] z Q := by
  unfold wc_X12_heaps_144 at h
  refine tq_k_ic (n := 0) (v := (0 : Int32)) (by decide +kernel) kc_0 ?_
  refine tq_s_istore (i := 4) (L9 := [.ref 51, .null, .null, .null, .int (0 : Int32), .null, .null]) (by decide +kernel) (by decide) rfl ?_
  exact ac_X12_heaps_147 h
def wb_X12_heaps_72 (B72 : Int32 → tq_S → Prop) (Q : tq_O → tq_S → Prop) (a1 : Int32) (a2 : Int32) (a3 : Int32) (a4 : Int32) (z : tq_S) : Prop := ((a1 < a4 → wc_X12_heaps_144 Q z) ∧ (¬ a1 < a4 → wc_X12_heaps_81 B72 Q a1 a2 a3 a4 (1 : Int32) z))
def wc_X12_heaps_72 (Q : tq_O → tq_S → Prop) (a1 : Int32) (a2 : Int32) (a3 : Int32) (a4 : Int32) (z : tq_S) : Prop := tq_lp (σ := Int32 × tq_S) (fun B s => wb_X12_heaps_72 (fun b4 z => B (b4, z)) Q a1 a2 a3 s.1 s.2) (a4, z)
theorem ab_X12_heaps_72 {K : Nat × (Nat → Int32)} {x : Nat} {Q : tq_O → tq_S → Prop} {B72 : Int32 → tq_S → Prop} {a1 : Int32} {a2 : Int32} {a3 : Int32} {a4 : Int32} {z : tq_S} (hB72 : ∀ (b4 : Int32) (z : tq_S), B72 b4 z → tq_T K 42 x mm_X12_heaps 72 [.ref 51, .int a1, .int a2, .int a3, .int b4, .null, .null] [] z Q) (h : wb_X12_heaps_72 B72 Q a1 a2 a3 a4 z) : tq_T K 42 x mm_X12_heaps 72 [.ref 51, .int a1, .int a2, .int a3, .int a4, .null, .null] [] z Q := by
  unfold wb_X12_heaps_72 at h
  refine tq_s_iload (i := 4) (by decide +kernel) rfl ?_
  refine tq_s_iload_n (kk := 1) (by decide +kernel) rfl ?_
  refine tq_icmp_gt (off := 69) (tgt := 144) (by decide +kernel) (by decide +kernel) (fun hc => ?_) (fun hc => ?_)
  · replace h := h.1 hc
    exact tq_to (tq_lk1 (tq_ld1 (tq_ld1 (tq_ld1 (tq_ld1 (tq_lk1 (tq_lk1 tq_l0))))))) (ac_X12_heaps_144 h)
  · replace h := h.2 hc
    refine tq_k_ic (n := 1) (v := (1 : Int32)) (by decide +kernel) kc_1 ?_
    refine tq_s_istore (i := 5) (L9 := [.ref 51, .int a1, .int a2, .int a3, .int a4, .int (1 : Int32), .null]) (by decide +kernel) (by decide) rfl ?_
    exact ac_X12_heaps_81 hB72 h
theorem ac_X12_heaps_72 {K : Nat × (Nat → Int32)} {x : Nat} {Q : tq_O → tq_S → Prop} {a1 : Int32} {a2 : Int32} {a3 : Int32} {a4 : Int32} {z : tq_S} (h : wc_X12_heaps_72 Q a1 a2 a3 a4 z) : tq_T K 42 x mm_X12_heaps 72 [.ref 51, .int a1, .int a2, .int a3, .int a4, .null, .null] [] z Q :=
  tq_lp_T (σ := Int32 × tq_S) (s := (a4, z)) (G := fun s => tq_T K 42 x mm_X12_heaps 72 [.ref 51, .int a1, .int a2, .int a3, .int s.1, .null, .null] [] s.2 Q) (fun B hB s h => ab_X12_heaps_72 (fun b4 z h => hB (b4, z) h) h) h
def wc_X12_heaps_69 (Q : tq_O → tq_S → Prop) (a1 : Int32) (a2 : Int32) (a3 : Int32) (z : tq_S) : Prop := wc_X12_heaps_72 Q a1 a2 a3 (1 : Int32) z
theorem ac_X12_heaps_69 {K : Nat × (Nat → Int32)} {x : Nat} {Q : tq_O → tq_S → Prop} {a1 : Int32} {a2 : Int32} {a3 : Int32} {z : tq_S} (h : wc_X12_heaps_69 Q a1 a2 a3 z) : tq_T K 42 x mm_X12_heaps 69 [.ref 51, .int a1, .int a2, .int a3, .null, .null, .null] [] z Q := by
  unfold wc_X12_heaps_69 at h
  refine tq_k_ic (n := 1) (v := (1 : Int32)) (by decide +kernel) kc_1 ?_
  refine tq_s_istore (i := 4) (L9 := [.ref 51, .int a1, .int a2, .int a3, .int (1 : Int32), .null, .null]) (by decide +kernel) (by decide) rfl ?_
  exact ac_X12_heaps_72 h
def wb_X12_heaps_48 (B48 : Int32 → tq_S → Prop) (Q : tq_O → tq_S → Prop) (a1 : Int32) (a2 : Int32) (a3 : Int32) (a4 : Int32) (z : tq_S) : Prop := (((24 : Int32) ≤ a4 → wc_X12_heaps_69 Q a1 a2 a3 z) ∧ (¬ (24 : Int32) ≤ a4 → vp_in a4 24 ∧ ∀ z101 : tq_S, z101 = tq_sai z 84 (upd (tq_ai z 84) (Int32.toNatClampNeg a4) (0 : Int32)) → ∀ v102 : Int32, v102 = a4 + (1 : Int32) → B48 v102 z101))
def wc_X12_heaps_48 (Q : tq_O → tq_S → Prop) (a1 : Int32) (a2 : Int32) (a3 : Int32) (a4 : Int32) (z : tq_S) : Prop := tq_lp (σ := Int32 × tq_S) (fun B s => wb_X12_heaps_48 (fun b4 z => B (b4, z)) Q a1 a2 a3 s.1 s.2) (a4, z)
theorem ab_X12_heaps_48 {K : Nat × (Nat → Int32)} {x : Nat} {Q : tq_O → tq_S → Prop} {B48 : Int32 → tq_S → Prop} {a1 : Int32} {a2 : Int32} {a3 : Int32} {a4 : Int32} {z : tq_S} (hB48 : ∀ (b4 : Int32) (z : tq_S), B48 b4 z → tq_T K 42 x mm_X12_heaps 48 [.ref 51, .int a1, .int a2, .int a3, .int b4, .null, .null] [] z Q) (h : wb_X12_heaps_48 B48 Q a1 a2 a3 a4 z) : tq_T K 42 x mm_X12_heaps 48 [.ref 51, .int a1, .int a2, .int a3, .int a4, .null, .null] [] z Q := by
  unfold wb_X12_heaps_48 at h
  refine tq_s_iload (i := 4) (by decide +kernel) rfl ?_
  refine tq_k_bi (n := 24) (v := (24 : Int32)) (by decide +kernel) kb_24 ?_
  refine tq_icmp_ge (off := 17) (tgt := 69) (by decide +kernel) (by decide +kernel) (fun hc => ?_) (fun hc => ?_)
  · replace h := h.1 hc
    exact tq_to (tq_lk1 (tq_lk1 (tq_lk1 (tq_lk1 (tq_ld1 (tq_lk1 (tq_lk1 tq_l0))))))) (ac_X12_heaps_69 h)
  · replace h := h.2 hc
    refine tq_s_aload_n (kk := 0) (by decide +kernel) rfl ?_
    refine fg_12_119_51 rfl (by decide +kernel) ?_
    refine tq_s_iload (i := 4) (by decide +kernel) rfl ?_
    refine tq_k_ic (n := 0) (v := (0 : Int32)) (by decide +kernel) kc_0 ?_
    refine tq_g_iast (by decide +kernel) sh_84 h.1 (fun z101 ez101 => ?_)
    replace h := h.2 z101 ez101
    refine tq_g_iinc (i := 4) (fun v102 => [.ref 51, .int a1, .int a2, .int a3, .int v102, .null, .null]) (by decide +kernel) rfl (1 : Int32) kc_1 (fun _ => rfl) (fun v102 ev102 => ?_)
    replace h := h v102 ev102
    refine tq_s_goto (off := -18) (tgt := 48) (by decide +kernel) (by decide +kernel) ?_
    exact hB48 _ _ h
theorem ac_X12_heaps_48 {K : Nat × (Nat → Int32)} {x : Nat} {Q : tq_O → tq_S → Prop} {a1 : Int32} {a2 : Int32} {a3 : Int32} {a4 : Int32} {z : tq_S} (h : wc_X12_heaps_48 Q a1 a2 a3 a4 z) : tq_T K 42 x mm_X12_heaps 48 [.ref 51, .int a1, .int a2, .int a3, .int a4, .null, .null] [] z Q :=
  tq_lp_T (σ := Int32 × tq_S) (s := (a4, z)) (G := fun s => tq_T K 42 x mm_X12_heaps 48 [.ref 51, .int a1, .int a2, .int a3, .int s.1, .null, .null] [] s.2 Q) (fun B hB s h => ab_X12_heaps_48 (fun b4 z h => hB (b4, z) h) h) h
def wc_X12_heaps_36 (Q : tq_O → tq_S → Prop) (a1 : Int32) (a2 : Int32) (a3 : Int32) (s0 : Int32) (z : tq_S) : Prop := wm_X12_isThrown s0 (1 : Int32) z (tq_wi fun r102 z101 => ((r102 = 0 → wc_X12_heaps_48 Q a1 a2 a3 (0 : Int32) z101) ∧ (¬ r102 = 0 → Q (.inl (some (.int (0 : Int32)))) z101)))
theorem ac_X12_heaps_36 {K : Nat × (Nat → Int32)} {x : Nat} {Q : tq_O → tq_S → Prop} {a1 : Int32} {a2 : Int32} {a3 : Int32} {s0 : Int32} {z : tq_S} (h : wc_X12_heaps_36 Q a1 a2 a3 s0 z) : tq_T K 42 x mm_X12_heaps 36 [.ref 51, .int a1, .int a2, .int a3, .null, .null, .null] [.int s0, .ref 51] z Q := by
  unfold wc_X12_heaps_36 at h
  refine tq_k_ic (n := 1) (v := (1 : Int32)) (by decide +kernel) kc_1 ?_
  refine tq_callV (as := [.int s0, .int (1 : Int32)]) (st := []) (d1 := 0) (x1 := 0) (x2 := x) (by decide +kernel) ln_12_152 mf_X12_isThrown rfl sh_51 rfl (by decide) np_X12_isThrown rfl (Nat.le_of_ble_eq_true rfl) (by decide) (Nat.zero_add _).symm (tq_M_mono (am_X12_isThrown h) ?_)
  refine tq_wi_e (fun r102 z101 h => ?_)
  refine tq_if_eq (off := 5) (tgt := 45) (by decide +kernel) (by decide +kernel) (fun hc => ?_) (fun hc => ?_)
  · replace h := h.1 hc
    refine tq_k_ic (n := 0) (v := (0 : Int32)) (by decide +kernel) kc_0 ?_
    refine tq_s_istore (i := 4) (L9 := [.ref 51, .int a1, .int a2, .int a3, .int (0 : Int32), .null, .null]) (by decide +kernel) (by decide) rfl ?_
    exact ac_X12_heaps_48 h
  · replace h := h.2 hc
    refine tq_k_ic (n := 0) (v := (0 : Int32)) (by decide +kernel) kc_0 ?_
    exact tq_ret_i (st := []) (by decide +kernel) rfl h
def wc_X12_heaps_31 (Q : tq_O → tq_S → Prop) (a1 : Int32) (a2 : Int32) (a3 : Int32) (z : tq_S) : Prop := wc_X12_heaps_36 Q a1 a2 a3 (1 : Int32) z
theorem ac_X12_heaps_31 {K : Nat × (Nat → Int32)} {x : Nat} {Q : tq_O → tq_S → Prop} {a1 : Int32} {a2 : Int32} {a3 : Int32} {z : tq_S} (h : wc_X12_heaps_31 Q a1 a2 a3 z) : tq_T K 42 x mm_X12_heaps 31 [.ref 51, .int a1, .int a2, .int a3, .null, .null, .null] [.ref 51] z Q := by
  unfold wc_X12_heaps_31 at h
  refine tq_k_ic (n := 1) (v := (1 : Int32)) (by decide +kernel) kc_1 ?_
  refine tq_s_goto (off := 4) (tgt := 36) (by decide +kernel) (by decide +kernel) ?_
  exact ac_X12_heaps_36 h
def wm_X12_heaps (a1 : Int32) (a2 : Int32) (a3 : Int32) (z : tq_S) (Q : tq_O → tq_S → Prop) : Prop := wm_X12_isIn a1 (1 : Int32) (8 : Int32) z (tq_wi fun r2 z1 => ((r2 = 0 → wc_X12_heaps_31 Q a1 a2 a3 z1) ∧ (¬ r2 = 0 → wm_X12_isIn a2 (1 : Int32) (8 : Int32) z1 (tq_wi fun r4 z3 => ((r4 = 0 → wc_X12_heaps_31 Q a1 a2 a3 z3) ∧ (¬ r4 = 0 → wm_X12_isIn a3 (1 : Int32) (8 : Int32) z3 (tq_wi fun r6 z5 => ((¬ r6 = 0 → wc_X12_heaps_36 Q a1 a2 a3 (0 : Int32) z5) ∧ (r6 = 0 → wc_X12_heaps_31 Q a1 a2 a3 z5)))))))))
theorem am_X12_heaps {K : Nat × (Nat → Int32)} {x : Nat} {z : tq_S} {Q : tq_O → tq_S → Prop} {a1 : Int32} {a2 : Int32} {a3 : Int32} (h : wm_X12_heaps a1 a2 a3 z Q) : tq_M K 42 x mm_X12_heaps [.ref 51, .int a1, .int a2, .int a3] z Q := by
  unfold wm_X12_heaps at h
  refine tq_enter (L := [.ref 51, .int a1, .int a2, .int a3, .null, .null, .null]) mf_X12_heaps.1 rfl rfl (Nat.le_of_ble_eq_true rfl) ?_
  refine tq_s_aload_n (kk := 0) (by decide +kernel) rfl ?_
  refine tq_s_iload_n (kk := 1) (by decide +kernel) rfl ?_
  refine tq_k_ic (n := 1) (v := (1 : Int32)) (by decide +kernel) kc_1 ?_
  refine tq_k_bi (n := 8) (v := (8 : Int32)) (by decide +kernel) kb_8 ?_
  refine tq_callS (as := [.int a1, .int (1 : Int32), .int (8 : Int32)]) (st := [.ref 51]) (d1 := 0) (x1 := 0) (x2 := x) (by decide +kernel) ln_12_148 mf_X12_isIn rfl (by decide) np_X12_isIn rfl (Nat.le_of_ble_eq_true rfl) (by decide) (Nat.zero_add _).symm (tq_M_mono (am_X12_isIn h) ?_)
  refine tq_wi_e (fun r2 z1 h => ?_)
  refine tq_if_eq (off := 23) (tgt := 31) (by decide +kernel) (by decide +kernel) (fun hc => ?_) (fun hc => ?_)
  · replace h := h.1 hc
    exact ac_X12_heaps_31 h
  · replace h := h.2 hc
    refine tq_s_iload_n (kk := 2) (by decide +kernel) rfl ?_
    refine tq_k_ic (n := 1) (v := (1 : Int32)) (by decide +kernel) kc_1 ?_
    refine tq_k_bi (n := 8) (v := (8 : Int32)) (by decide +kernel) kb_8 ?_
    refine tq_callS (as := [.int a2, .int (1 : Int32), .int (8 : Int32)]) (st := [.ref 51]) (d1 := 0) (x1 := 0) (x2 := x) (by decide +kernel) ln_12_148 mf_X12_isIn rfl (by decide) np_X12_isIn rfl (Nat.le_of_ble_eq_true rfl) (by decide) (Nat.zero_add _).symm (tq_M_mono (am_X12_isIn h) ?_)
    refine tq_wi_e (fun r4 z3 h => ?_)
    refine tq_if_eq (off := 13) (tgt := 31) (by decide +kernel) (by decide +kernel) (fun hc => ?_) (fun hc => ?_)
    · replace h := h.1 hc
      exact ac_X12_heaps_31 h
    · replace h := h.2 hc
      refine tq_s_iload_n (kk := 3) (by decide +kernel) rfl ?_
      refine tq_k_ic (n := 1) (v := (1 : Int32)) (by decide +kernel) kc_1 ?_
      refine tq_k_bi (n := 8) (v := (8 : Int32)) (by decide +kernel) kb_8 ?_
      refine tq_callS (as := [.int a3, .int (1 : Int32), .int (8 : Int32)]) (st := [.ref 51]) (d1 := 0) (x1 := 0) (x2 := x) (by decide +kernel) ln_12_148 mf_X12_isIn rfl (by decide) np_X12_isIn rfl (Nat.le_of_ble_eq_true rfl) (by decide) (Nat.zero_add _).symm (tq_M_mono (am_X12_isIn h) ?_)
      refine tq_wi_e (fun r6 z5 h => ?_)
      refine tq_if_ne (off := 7) (tgt := 35) (by decide +kernel) (by decide +kernel) (fun hc => ?_) (fun hc => ?_)
      · replace h := h.1 hc
        refine tq_k_ic (n := 0) (v := (0 : Int32)) (by decide +kernel) kc_0 ?_
        exact ac_X12_heaps_36 h
      · replace h := h.2 hc
        exact ac_X12_heaps_31 h
def wm_X12_hexagon (a1 : Int32) (a2 : Int32) (a3 : Int32) (z : tq_S) (Q : tq_O → tq_S → Prop) : Prop := wm_X12_heaps a1 a2 a3 z (tq_wi fun r2 z1 => Q (.inl (some (.int r2))) z1)
theorem am_X12_hexagon {K : Nat × (Nat → Int32)} {x : Nat} {z : tq_S} {Q : tq_O → tq_S → Prop} {a1 : Int32} {a2 : Int32} {a3 : Int32} (h : wm_X12_hexagon a1 a2 a3 z Q) : tq_M K 43 x mm_X12_hexagon [.ref 51, .int a1, .int a2, .int a3] z Q := by
  unfold wm_X12_hexagon at h
  refine tq_enter (L := [.ref 51, .int a1, .int a2, .int a3]) mf_X12_hexagon.1 rfl rfl (Nat.le_of_ble_eq_true rfl) ?_
  refine tq_s_aload_n (kk := 0) (by decide +kernel) rfl ?_
  refine tq_s_iload_n (kk := 1) (by decide +kernel) rfl ?_
  refine tq_s_iload_n (kk := 2) (by decide +kernel) rfl ?_
  refine tq_s_iload_n (kk := 3) (by decide +kernel) rfl ?_
  refine tq_callV (as := [.int a1, .int a2, .int a3]) (st := []) (d1 := 42) (x1 := 0) (x2 := x) (by decide +kernel) ln_12_448 mf_X12_heaps rfl sh_51 rfl (by decide) np_X12_heaps rfl (Nat.le_of_ble_eq_true rfl) (by decide) (Nat.zero_add _).symm (tq_M_mono (am_X12_heaps h) ?_)
  refine tq_wi_e (fun r2 z1 h => ?_)
  exact tq_ret_i (st := []) (by decide +kernel) rfl h
def wc_X12_rooksOf_23 (B2 : Int32 → tq_S → Prop) (Q : tq_O → tq_S → Prop) (a1 : Int32) (a2 : Int32) (s0 : Int64) (s1 : Int32) (z : tq_S) : Prop := vp_in s1 256 ∧ ∀ z101 : tq_S, z101 = tq_sal z 54 (vp_updL (tq_al z 54) (Int32.toNatClampNeg s1) s0) → ∀ v102 : Int32, v102 = a2 + (1 : Int32) → B2 v102 z101
theorem ac_X12_rooksOf_23 {K : Nat × (Nat → Int32)} {x : Nat} {Q : tq_O → tq_S → Prop} {B2 : Int32 → tq_S → Prop} {a1 : Int32} {a2 : Int32} {s0 : Int64} {s1 : Int32} {z : tq_S} (hB2 : ∀ (b2 : Int32) (z : tq_S), B2 b2 z → tq_T K 1 x mm_X12_rooksOf 2 [.ref 51, .int a1, .int b2, .null, .null] [] z Q) (h : wc_X12_rooksOf_23 B2 Q a1 a2 s0 s1 z) : tq_T K 1 x mm_X12_rooksOf 23 [.ref 51, .int a1, .int a2, .null, .null] [.long s0, .int s1, .ref 54] z Q := by
  unfold wc_X12_rooksOf_23 at h
  refine tq_g_last (by decide +kernel) sh_54 h.1 (fun z101 ez101 => ?_)
  replace h := h.2 z101 ez101
  refine tq_g_iinc (i := 2) (fun v102 => [.ref 51, .int a1, .int v102, .null, .null]) (by decide +kernel) rfl (1 : Int32) kc_1 (fun _ => rfl) (fun v102 ev102 => ?_)
  replace h := h v102 ev102
  refine tq_s_goto (off := -25) (tgt := 2) (by decide +kernel) (by decide +kernel) ?_
  exact hB2 _ _ h
def wc_X12_rooksOf_132 (B32 : Int32 → tq_S → Prop) (B69 : Int32 → tq_S → Prop) (B79 : Int32 → tq_S → Prop) (Q : tq_O → tq_S → Prop) (a1 : Int32) (a2 : Int32) (a3 : Int32) (a4 : Int32) (z : tq_S) : Prop := ∀ v101 : Int32, v101 = a4 + (1 : Int32) → B79 v101 z
theorem ac_X12_rooksOf_132 {K : Nat × (Nat → Int32)} {x : Nat} {Q : tq_O → tq_S → Prop} {B32 : Int32 → tq_S → Prop} {B69 : Int32 → tq_S → Prop} {B79 : Int32 → tq_S → Prop} {a1 : Int32} {a2 : Int32} {a3 : Int32} {a4 : Int32} {z : tq_S} (hB32 : ∀ (b2 : Int32) (z : tq_S), B32 b2 z → tq_T K 1 x mm_X12_rooksOf 32 [.ref 51, .int a1, .int b2, .null, .null] [] z Q) (hB69 : ∀ (b3 : Int32) (z : tq_S), B69 b3 z → tq_T K 1 x mm_X12_rooksOf 69 [.ref 51, .int a1, .int a2, .int b3, .null] [] z Q) (hB79 : ∀ (b4 : Int32) (z : tq_S), B79 b4 z → tq_T K 1 x mm_X12_rooksOf 79 [.ref 51, .int a1, .int a2, .int a3, .int b4] [] z Q) (h : wc_X12_rooksOf_132 B32 B69 B79 Q a1 a2 a3 a4 z) : tq_T K 1 x mm_X12_rooksOf 132 [.ref 51, .int a1, .int a2, .int a3, .int a4] [] z Q := by
  unfold wc_X12_rooksOf_132 at h
  refine tq_g_iinc (i := 4) (fun v101 => [.ref 51, .int a1, .int a2, .int a3, .int v101]) (by decide +kernel) rfl (1 : Int32) kc_1 (fun _ => rfl) (fun v101 ev101 => ?_)
  replace h := h v101 ev101
  refine tq_s_goto (off := -56) (tgt := 79) (by decide +kernel) (by decide +kernel) ?_
  exact hB79 _ _ h
def wc_X12_rooksOf_138 (B32 : Int32 → tq_S → Prop) (B69 : Int32 → tq_S → Prop) (Q : tq_O → tq_S → Prop) (a1 : Int32) (a2 : Int32) (a3 : Int32) (z : tq_S) : Prop := ∀ v101 : Int32, v101 = a3 + (1 : Int32) → B69 v101 z
theorem ac_X12_rooksOf_138 {K : Nat × (Nat → Int32)} {x : Nat} {Q : tq_O → tq_S → Prop} {B32 : Int32 → tq_S → Prop} {B69 : Int32 → tq_S → Prop} {a1 : Int32} {a2 : Int32} {a3 : Int32} {z : tq_S} (hB32 : ∀ (b2 : Int32) (z : tq_S), B32 b2 z → tq_T K 1 x mm_X12_rooksOf 32 [.ref 51, .int a1, .int b2, .null, .null] [] z Q) (hB69 : ∀ (b3 : Int32) (z : tq_S), B69 b3 z → tq_T K 1 x mm_X12_rooksOf 69 [.ref 51, .int a1, .int a2, .int b3, .null] [] z Q) (h : wc_X12_rooksOf_138 B32 B69 Q a1 a2 a3 z) : tq_T K 1 x mm_X12_rooksOf 138 [.ref 51, .int a1, .int a2, .int a3, .null] [] z Q := by
  unfold wc_X12_rooksOf_138 at h
  refine tq_g_iinc (i := 3) (fun v101 => [.ref 51, .int a1, .int a2, .int v101, .null]) (by decide +kernel) rfl (1 : Int32) kc_1 (fun _ => rfl) (fun v101 ev101 => ?_)
  replace h := h v101 ev101
  refine tq_s_goto (off := -72) (tgt := 69) (by decide +kernel) (by decide +kernel) ?_
  exact hB69 _ _ h
def wb_X12_rooksOf_79 (B32 : Int32 → tq_S → Prop) (B69 : Int32 → tq_S → Prop) (B79 : Int32 → tq_S → Prop) (Q : tq_O → tq_S → Prop) (a1 : Int32) (a2 : Int32) (a3 : Int32) (a4 : Int32) (z : tq_S) : Prop := (((tq_fi z 3265) ≤ a4 → wc_X12_rooksOf_138 B32 B69 Q a1 a2 a3 z) ∧ (¬ (tq_fi z 3265) ≤ a4 → vp_in (((8 : Int32) * a2) + a4) 64 ∧ (((tq_ai z 52 (Int32.toNatClampNeg (((8 : Int32) * a2) + a4))) = 0 → wc_X12_rooksOf_132 B32 B69 B79 Q a1 a2 a3 a4 z) ∧ (¬ (tq_ai z 52 (Int32.toNatClampNeg (((8 : Int32) * a2) + a4))) = 0 → ((¬ ((a3 >>> (a4 &&& 31)) &&& (1 : Int32)) = 0 → wc_X12_rooksOf_132 B32 B69 B79 Q a1 a2 a3 a4 z) ∧ (((a3 >>> (a4 &&& 31)) &&& (1 : Int32)) = 0 → vp_in (a3 ||| ((1 : Int32) <<< (a4 &&& 31))) 256 ∧ vp_in a3 256 ∧ vp_in (a3 ||| ((1 : Int32) <<< (a4 &&& 31))) 256 ∧ ∀ z101 : tq_S, z101 = tq_sal z 55 (vp_updL (tq_al z 55) (Int32.toNatClampNeg (a3 ||| ((1 : Int32) <<< (a4 &&& 31)))) ((tq_al z 55 (Int32.toNatClampNeg (a3 ||| ((1 : Int32) <<< (a4 &&& 31))))) + (tq_al z 54 (Int32.toNatClampNeg a3)))) → wc_X12_rooksOf_132 B32 B69 B79 Q a1 a2 a3 a4 z101))))))
def wc_X12_rooksOf_79 (B32 : Int32 → tq_S → Prop) (B69 : Int32 → tq_S → Prop) (Q : tq_O → tq_S → Prop) (a1 : Int32) (a2 : Int32) (a3 : Int32) (a4 : Int32) (z : tq_S) : Prop := tq_lp (σ := Int32 × tq_S) (fun B s => wb_X12_rooksOf_79 B32 B69 (fun b4 z => B (b4, z)) Q a1 a2 a3 s.1 s.2) (a4, z)
theorem ab_X12_rooksOf_79 {K : Nat × (Nat → Int32)} {x : Nat} {Q : tq_O → tq_S → Prop} {B32 : Int32 → tq_S → Prop} {B69 : Int32 → tq_S → Prop} {B79 : Int32 → tq_S → Prop} {a1 : Int32} {a2 : Int32} {a3 : Int32} {a4 : Int32} {z : tq_S} (hB32 : ∀ (b2 : Int32) (z : tq_S), B32 b2 z → tq_T K 1 x mm_X12_rooksOf 32 [.ref 51, .int a1, .int b2, .null, .null] [] z Q) (hB69 : ∀ (b3 : Int32) (z : tq_S), B69 b3 z → tq_T K 1 x mm_X12_rooksOf 69 [.ref 51, .int a1, .int a2, .int b3, .null] [] z Q) (hB79 : ∀ (b4 : Int32) (z : tq_S), B79 b4 z → tq_T K 1 x mm_X12_rooksOf 79 [.ref 51, .int a1, .int a2, .int a3, .int b4] [] z Q) (h : wb_X12_rooksOf_79 B32 B69 B79 Q a1 a2 a3 a4 z) : tq_T K 1 x mm_X12_rooksOf 79 [.ref 51, .int a1, .int a2, .int a3, .int a4] [] z Q := by
  unfold wb_X12_rooksOf_79 at h
  refine tq_s_iload (i := 4) (by decide +kernel) rfl ?_
  refine tq_s_aload_n (kk := 0) (by decide +kernel) rfl ?_
  refine fg_12_7_51 rfl (by decide +kernel) ?_
  refine tq_icmp_ge (off := 53) (tgt := 138) (by decide +kernel) (by decide +kernel) (fun hc => ?_) (fun hc => ?_)
  · replace h := h.1 hc
    exact tq_to (tq_lk1 (tq_lk1 (tq_lk1 (tq_lk1 (tq_ld1 tq_l0))))) (ac_X12_rooksOf_138 hB32 hB69 h)
  · replace h := h.2 hc
    refine tq_s_aload_n (kk := 0) (by decide +kernel) rfl ?_
    refine fg_12_16_51 rfl (by decide +kernel) ?_
    refine tq_k_bi (n := 8) (v := (8 : Int32)) (by decide +kernel) kb_8 ?_
    refine tq_s_iload_n (kk := 2) (by decide +kernel) rfl ?_
    refine tq_s_imul (by decide +kernel) ?_
    refine tq_s_iload (i := 4) (by decide +kernel) rfl ?_
    refine tq_s_iadd (by decide +kernel) ?_
    refine tq_s_zald (by decide +kernel) sh_52 h.1 ?_
    replace h := h.2
    refine tq_if_eq (off := 32) (tgt := 132) (by decide +kernel) (by decide +kernel) (fun hc => ?_) (fun hc => ?_)
    · replace h := h.1 hc
      exact ac_X12_rooksOf_132 hB32 hB69 hB79 h
    · replace h := h.2 hc
      refine tq_s_iload_n (kk := 3) (by decide +kernel) rfl ?_
      refine tq_s_iload (i := 4) (by decide +kernel) rfl ?_
      refine tq_s_ishr (by decide +kernel) ?_
      refine tq_k_ic (n := 1) (v := (1 : Int32)) (by decide +kernel) kc_1 ?_
      refine tq_s_iand (by decide +kernel) ?_
      refine tq_if_ne (off := 23) (tgt := 132) (by decide +kernel) (by decide +kernel) (fun hc => ?_) (fun hc => ?_)
      · replace h := h.1 hc
        exact ac_X12_rooksOf_132 hB32 hB69 hB79 h
      · replace h := h.2 hc
        refine tq_s_aload_n (kk := 0) (by decide +kernel) rfl ?_
        refine fg_12_27_51 rfl (by decide +kernel) ?_
        refine tq_s_iload_n (kk := 3) (by decide +kernel) rfl ?_
        refine tq_k_ic (n := 1) (v := (1 : Int32)) (by decide +kernel) kc_1 ?_
        refine tq_s_iload (i := 4) (by decide +kernel) rfl ?_
        refine tq_s_ishl (by decide +kernel) ?_
        refine tq_s_ior (by decide +kernel) ?_
        refine tq_s_dup2_11 (by decide +kernel) rfl rfl ?_
        refine tq_s_lald (by decide +kernel) sh_55 h.1 ?_
        replace h := h.2
        refine tq_s_aload_n (kk := 0) (by decide +kernel) rfl ?_
        refine fg_12_23_51 rfl (by decide +kernel) ?_
        refine tq_s_iload_n (kk := 3) (by decide +kernel) rfl ?_
        refine tq_s_lald (by decide +kernel) sh_54 h.1 ?_
        replace h := h.2
        refine tq_s_ladd (by decide +kernel) ?_
        refine tq_g_last (by decide +kernel) sh_55 h.1 (fun z101 ez101 => ?_)
        replace h := h.2 z101 ez101
        exact ac_X12_rooksOf_132 hB32 hB69 hB79 h
theorem ac_X12_rooksOf_79 {K : Nat × (Nat → Int32)} {x : Nat} {Q : tq_O → tq_S → Prop} {B32 : Int32 → tq_S → Prop} {B69 : Int32 → tq_S → Prop} {a1 : Int32} {a2 : Int32} {a3 : Int32} {a4 : Int32} {z : tq_S} (hB32 : ∀ (b2 : Int32) (z : tq_S), B32 b2 z → tq_T K 1 x mm_X12_rooksOf 32 [.ref 51, .int a1, .int b2, .null, .null] [] z Q) (hB69 : ∀ (b3 : Int32) (z : tq_S), B69 b3 z → tq_T K 1 x mm_X12_rooksOf 69 [.ref 51, .int a1, .int a2, .int b3, .null] [] z Q) (h : wc_X12_rooksOf_79 B32 B69 Q a1 a2 a3 a4 z) : tq_T K 1 x mm_X12_rooksOf 79 [.ref 51, .int a1, .int a2, .int a3, .int a4] [] z Q :=
  tq_lp_T (σ := Int32 × tq_S) (s := (a4, z)) (G := fun s => tq_T K 1 x mm_X12_rooksOf 79 [.ref 51, .int a1, .int a2, .int a3, .int s.1] [] s.2 Q) (fun B hB s h => ab_X12_rooksOf_79 hB32 hB69 (fun b4 z h => hB (b4, z) h) h) h
def wc_X12_rooksOf_171 (B32 : Int32 → tq_S → Prop) (Q : tq_O → tq_S → Prop) (a1 : Int32) (a2 : Int32) (z : tq_S) : Prop := ∀ v101 : Int32, v101 = a2 + (1 : Int32) → B32 v101 z
theorem ac_X12_rooksOf_171 {K : Nat × (Nat → Int32)} {x : Nat} {Q : tq_O → tq_S → Prop} {B32 : Int32 → tq_S → Prop} {a1 : Int32} {a2 : Int32} {z : tq_S} (hB32 : ∀ (b2 : Int32) (z : tq_S), B32 b2 z → tq_T K 1 x mm_X12_rooksOf 32 [.ref 51, .int a1, .int b2, .null, .null] [] z Q) (h : wc_X12_rooksOf_171 B32 Q a1 a2 z) : tq_T K 1 x mm_X12_rooksOf 171 [.ref 51, .int a1, .int a2, .null, .null] [] z Q := by
  unfold wc_X12_rooksOf_171 at h
  refine tq_g_iinc (i := 2) (fun v101 => [.ref 51, .int a1, .int v101, .null, .null]) (by decide +kernel) rfl (1 : Int32) kc_1 (fun _ => rfl) (fun v101 ev101 => ?_)
  replace h := h v101 ev101
  refine tq_s_goto (off := -142) (tgt := 32) (by decide +kernel) (by decide +kernel) ?_
  exact hB32 _ _ h
def wb_X12_rooksOf_146 (B32 : Int32 → tq_S → Prop) (B146 : Int32 → tq_S → Prop) (Q : tq_O → tq_S → Prop) (a1 : Int32) (a2 : Int32) (a3 : Int32) (z : tq_S) : Prop := (((256 : Int32) ≤ a3 → wc_X12_rooksOf_171 B32 Q a1 a2 z) ∧ (¬ (256 : Int32) ≤ a3 → vp_in a3 256 ∧ vp_in a3 256 ∧ ∀ z101 : tq_S, z101 = tq_sal z 54 (vp_updL (tq_al z 54) (Int32.toNatClampNeg a3) (tq_al z 55 (Int32.toNatClampNeg a3))) → ∀ v102 : Int32, v102 = a3 + (1 : Int32) → B146 v102 z101))
def wc_X12_rooksOf_146 (B32 : Int32 → tq_S → Prop) (Q : tq_O → tq_S → Prop) (a1 : Int32) (a2 : Int32) (a3 : Int32) (z : tq_S) : Prop := tq_lp (σ := Int32 × tq_S) (fun B s => wb_X12_rooksOf_146 B32 (fun b3 z => B (b3, z)) Q a1 a2 s.1 s.2) (a3, z)
theorem ab_X12_rooksOf_146 {K : Nat × (Nat → Int32)} {x : Nat} {Q : tq_O → tq_S → Prop} {B32 : Int32 → tq_S → Prop} {B146 : Int32 → tq_S → Prop} {a1 : Int32} {a2 : Int32} {a3 : Int32} {z : tq_S} (hB32 : ∀ (b2 : Int32) (z : tq_S), B32 b2 z → tq_T K 1 x mm_X12_rooksOf 32 [.ref 51, .int a1, .int b2, .null, .null] [] z Q) (hB146 : ∀ (b3 : Int32) (z : tq_S), B146 b3 z → tq_T K 1 x mm_X12_rooksOf 146 [.ref 51, .int a1, .int a2, .int b3, .null] [] z Q) (h : wb_X12_rooksOf_146 B32 B146 Q a1 a2 a3 z) : tq_T K 1 x mm_X12_rooksOf 146 [.ref 51, .int a1, .int a2, .int a3, .null] [] z Q := by
  unfold wb_X12_rooksOf_146 at h
  refine tq_s_iload_n (kk := 3) (by decide +kernel) rfl ?_
  refine tq_k_si (n := 256) (v := (256 : Int32)) (by decide +kernel) ks_256 ?_
  refine tq_icmp_ge (off := 21) (tgt := 171) (by decide +kernel) (by decide +kernel) (fun hc => ?_) (fun hc => ?_)
  · replace h := h.1 hc
    exact tq_to (tq_lk1 (tq_lk1 (tq_lk1 (tq_ld1 (tq_lk1 tq_l0))))) (ac_X12_rooksOf_171 hB32 h)
  · replace h := h.2 hc
    refine tq_s_aload_n (kk := 0) (by decide +kernel) rfl ?_
    refine fg_12_23_51 rfl (by decide +kernel) ?_
    refine tq_s_iload_n (kk := 3) (by decide +kernel) rfl ?_
    refine tq_s_aload_n (kk := 0) (by decide +kernel) rfl ?_
    refine fg_12_27_51 rfl (by decide +kernel) ?_
    refine tq_s_iload_n (kk := 3) (by decide +kernel) rfl ?_
    refine tq_s_lald (by decide +kernel) sh_55 h.1 ?_
    replace h := h.2
    refine tq_g_last (by decide +kernel) sh_54 h.1 (fun z101 ez101 => ?_)
    replace h := h.2 z101 ez101
    refine tq_g_iinc (i := 3) (fun v102 => [.ref 51, .int a1, .int a2, .int v102, .null]) (by decide +kernel) rfl (1 : Int32) kc_1 (fun _ => rfl) (fun v102 ev102 => ?_)
    replace h := h v102 ev102
    refine tq_s_goto (off := -22) (tgt := 146) (by decide +kernel) (by decide +kernel) ?_
    exact hB146 _ _ h
theorem ac_X12_rooksOf_146 {K : Nat × (Nat → Int32)} {x : Nat} {Q : tq_O → tq_S → Prop} {B32 : Int32 → tq_S → Prop} {a1 : Int32} {a2 : Int32} {a3 : Int32} {z : tq_S} (hB32 : ∀ (b2 : Int32) (z : tq_S), B32 b2 z → tq_T K 1 x mm_X12_rooksOf 32 [.ref 51, .int a1, .int b2, .null, .null] [] z Q) (h : wc_X12_rooksOf_146 B32 Q a1 a2 a3 z) : tq_T K 1 x mm_X12_rooksOf 146 [.ref 51, .int a1, .int a2, .int a3, .null] [] z Q :=
  tq_lp_T (σ := Int32 × tq_S) (s := (a3, z)) (G := fun s => tq_T K 1 x mm_X12_rooksOf 146 [.ref 51, .int a1, .int a2, .int s.1, .null] [] s.2 Q) (fun B hB s h => ab_X12_rooksOf_146 hB32 (fun b3 z h => hB (b3, z) h) h) h
def wc_X12_rooksOf_144 (B32 : Int32 → tq_S → Prop) (Q : tq_O → tq_S → Prop) (a1 : Int32) (a2 : Int32) (z : tq_S) : Prop := wc_X12_rooksOf_146 B32 Q a1 a2 (0 : Int32) z
theorem ac_X12_rooksOf_144 {K : Nat × (Nat → Int32)} {x : Nat} {Q : tq_O → tq_S → Prop} {B32 : Int32 → tq_S → Prop} {a1 : Int32} {a2 : Int32} {z : tq_S} (hB32 : ∀ (b2 : Int32) (z : tq_S), B32 b2 z → tq_T K 1 x mm_X12_rooksOf 32 [.ref 51, .int a1, .int b2, .null, .null] [] z Q) (h : wc_X12_rooksOf_144 B32 Q a1 a2 z) : tq_T K 1 x mm_X12_rooksOf 144 [.ref 51, .int a1, .int a2, .null, .null] [] z Q := by
  unfold wc_X12_rooksOf_144 at h
  refine tq_k_ic (n := 0) (v := (0 : Int32)) (by decide +kernel) kc_0 ?_
  refine tq_s_istore_n (kk := 3) (L9 := [.ref 51, .int a1, .int a2, .int (0 : Int32), .null]) (by decide +kernel) (by decide) rfl ?_
  exact ac_X12_rooksOf_146 hB32 h
def wb_X12_rooksOf_69 (B32 : Int32 → tq_S → Prop) (B69 : Int32 → tq_S → Prop) (Q : tq_O → tq_S → Prop) (a1 : Int32) (a2 : Int32) (a3 : Int32) (z : tq_S) : Prop := (((256 : Int32) ≤ a3 → wc_X12_rooksOf_144 B32 Q a1 a2 z) ∧ (¬ (256 : Int32) ≤ a3 → wc_X12_rooksOf_79 B32 B69 Q a1 a2 a3 (0 : Int32) z))
def wc_X12_rooksOf_69 (B32 : Int32 → tq_S → Prop) (Q : tq_O → tq_S → Prop) (a1 : Int32) (a2 : Int32) (a3 : Int32) (z : tq_S) : Prop := tq_lp (σ := Int32 × tq_S) (fun B s => wb_X12_rooksOf_69 B32 (fun b3 z => B (b3, z)) Q a1 a2 s.1 s.2) (a3, z)
theorem ab_X12_rooksOf_69 {K : Nat × (Nat → Int32)} {x : Nat} {Q : tq_O → tq_S → Prop} {B32 : Int32 → tq_S → Prop} {B69 : Int32 → tq_S → Prop} {a1 : Int32} {a2 : Int32} {a3 : Int32} {z : tq_S} (hB32 : ∀ (b2 : Int32) (z : tq_S), B32 b2 z → tq_T K 1 x mm_X12_rooksOf 32 [.ref 51, .int a1, .int b2, .null, .null] [] z Q) (hB69 : ∀ (b3 : Int32) (z : tq_S), B69 b3 z → tq_T K 1 x mm_X12_rooksOf 69 [.ref 51, .int a1, .int a2, .int b3, .null] [] z Q) (h : wb_X12_rooksOf_69 B32 B69 Q a1 a2 a3 z) : tq_T K 1 x mm_X12_rooksOf 69 [.ref 51, .int a1, .int a2, .int a3, .null] [] z Q := by
  unfold wb_X12_rooksOf_69 at h
  refine tq_s_iload_n (kk := 3) (by decide +kernel) rfl ?_
  refine tq_k_si (n := 256) (v := (256 : Int32)) (by decide +kernel) ks_256 ?_
  refine tq_icmp_ge (off := 71) (tgt := 144) (by decide +kernel) (by decide +kernel) (fun hc => ?_) (fun hc => ?_)
  · replace h := h.1 hc
    exact tq_to (tq_lk1 (tq_lk1 (tq_lk1 (tq_ld1 (tq_lk1 tq_l0))))) (ac_X12_rooksOf_144 hB32 h)
  · replace h := h.2 hc
    refine tq_k_ic (n := 0) (v := (0 : Int32)) (by decide +kernel) kc_0 ?_
    refine tq_s_istore (i := 4) (L9 := [.ref 51, .int a1, .int a2, .int a3, .int (0 : Int32)]) (by decide +kernel) (by decide) rfl ?_
    exact ac_X12_rooksOf_79 hB32 hB69 h
theorem ac_X12_rooksOf_69 {K : Nat × (Nat → Int32)} {x : Nat} {Q : tq_O → tq_S → Prop} {B32 : Int32 → tq_S → Prop} {a1 : Int32} {a2 : Int32} {a3 : Int32} {z : tq_S} (hB32 : ∀ (b2 : Int32) (z : tq_S), B32 b2 z → tq_T K 1 x mm_X12_rooksOf 32 [.ref 51, .int a1, .int b2, .null, .null] [] z Q) (h : wc_X12_rooksOf_69 B32 Q a1 a2 a3 z) : tq_T K 1 x mm_X12_rooksOf 69 [.ref 51, .int a1, .int a2, .int a3, .null] [] z Q :=
  tq_lp_T (σ := Int32 × tq_S) (s := (a3, z)) (G := fun s => tq_T K 1 x mm_X12_rooksOf 69 [.ref 51, .int a1, .int a2, .int s.1, .null] [] s.2 Q) (fun B hB s h => ab_X12_rooksOf_69 hB32 (fun b3 z h => hB (b3, z) h) h) h
def wc_X12_rooksOf_67 (B32 : Int32 → tq_S → Prop) (Q : tq_O → tq_S → Prop) (a1 : Int32) (a2 : Int32) (z : tq_S) : Prop := wc_X12_rooksOf_69 B32 Q a1 a2 (0 : Int32) z
theorem ac_X12_rooksOf_67 {K : Nat × (Nat → Int32)} {x : Nat} {Q : tq_O → tq_S → Prop} {B32 : Int32 → tq_S → Prop} {a1 : Int32} {a2 : Int32} {z : tq_S} (hB32 : ∀ (b2 : Int32) (z : tq_S), B32 b2 z → tq_T K 1 x mm_X12_rooksOf 32 [.ref 51, .int a1, .int b2, .null, .null] [] z Q) (h : wc_X12_rooksOf_67 B32 Q a1 a2 z) : tq_T K 1 x mm_X12_rooksOf 67 [.ref 51, .int a1, .int a2, .null, .null] [] z Q := by
  unfold wc_X12_rooksOf_67 at h
  refine tq_k_ic (n := 0) (v := (0 : Int32)) (by decide +kernel) kc_0 ?_
  refine tq_s_istore_n (kk := 3) (L9 := [.ref 51, .int a1, .int a2, .int (0 : Int32), .null]) (by decide +kernel) (by decide) rfl ?_
  exact ac_X12_rooksOf_69 hB32 h
def wb_X12_rooksOf_42 (B32 : Int32 → tq_S → Prop) (B42 : Int32 → tq_S → Prop) (Q : tq_O → tq_S → Prop) (a1 : Int32) (a2 : Int32) (a3 : Int32) (z : tq_S) : Prop := (((256 : Int32) ≤ a3 → wc_X12_rooksOf_67 B32 Q a1 a2 z) ∧ (¬ (256 : Int32) ≤ a3 → vp_in a3 256 ∧ vp_in a3 256 ∧ ∀ z101 : tq_S, z101 = tq_sal z 55 (vp_updL (tq_al z 55) (Int32.toNatClampNeg a3) (tq_al z 54 (Int32.toNatClampNeg a3))) → ∀ v102 : Int32, v102 = a3 + (1 : Int32) → B42 v102 z101))
def wc_X12_rooksOf_42 (B32 : Int32 → tq_S → Prop) (Q : tq_O → tq_S → Prop) (a1 : Int32) (a2 : Int32) (a3 : Int32) (z : tq_S) : Prop := tq_lp (σ := Int32 × tq_S) (fun B s => wb_X12_rooksOf_42 B32 (fun b3 z => B (b3, z)) Q a1 a2 s.1 s.2) (a3, z)
theorem ab_X12_rooksOf_42 {K : Nat × (Nat → Int32)} {x : Nat} {Q : tq_O → tq_S → Prop} {B32 : Int32 → tq_S → Prop} {B42 : Int32 → tq_S → Prop} {a1 : Int32} {a2 : Int32} {a3 : Int32} {z : tq_S} (hB32 : ∀ (b2 : Int32) (z : tq_S), B32 b2 z → tq_T K 1 x mm_X12_rooksOf 32 [.ref 51, .int a1, .int b2, .null, .null] [] z Q) (hB42 : ∀ (b3 : Int32) (z : tq_S), B42 b3 z → tq_T K 1 x mm_X12_rooksOf 42 [.ref 51, .int a1, .int a2, .int b3, .null] [] z Q) (h : wb_X12_rooksOf_42 B32 B42 Q a1 a2 a3 z) : tq_T K 1 x mm_X12_rooksOf 42 [.ref 51, .int a1, .int a2, .int a3, .null] [] z Q := by
  unfold wb_X12_rooksOf_42 at h
  refine tq_s_iload_n (kk := 3) (by decide +kernel) rfl ?_
  refine tq_k_si (n := 256) (v := (256 : Int32)) (by decide +kernel) ks_256 ?_
  refine tq_icmp_ge (off := 21) (tgt := 67) (by decide +kernel) (by decide +kernel) (fun hc => ?_) (fun hc => ?_)
  · replace h := h.1 hc
    exact tq_to (tq_lk1 (tq_lk1 (tq_lk1 (tq_ld1 (tq_lk1 tq_l0))))) (ac_X12_rooksOf_67 hB32 h)
  · replace h := h.2 hc
    refine tq_s_aload_n (kk := 0) (by decide +kernel) rfl ?_
    refine fg_12_27_51 rfl (by decide +kernel) ?_
    refine tq_s_iload_n (kk := 3) (by decide +kernel) rfl ?_
    refine tq_s_aload_n (kk := 0) (by decide +kernel) rfl ?_
    refine fg_12_23_51 rfl (by decide +kernel) ?_
    refine tq_s_iload_n (kk := 3) (by decide +kernel) rfl ?_
    refine tq_s_lald (by decide +kernel) sh_54 h.1 ?_
    replace h := h.2
    refine tq_g_last (by decide +kernel) sh_55 h.1 (fun z101 ez101 => ?_)
    replace h := h.2 z101 ez101
    refine tq_g_iinc (i := 3) (fun v102 => [.ref 51, .int a1, .int a2, .int v102, .null]) (by decide +kernel) rfl (1 : Int32) kc_1 (fun _ => rfl) (fun v102 ev102 => ?_)
    replace h := h v102 ev102
    refine tq_s_goto (off := -22) (tgt := 42) (by decide +kernel) (by decide +kernel) ?_
    exact hB42 _ _ h
theorem ac_X12_rooksOf_42 {K : Nat × (Nat → Int32)} {x : Nat} {Q : tq_O → tq_S → Prop} {B32 : Int32 → tq_S → Prop} {a1 : Int32} {a2 : Int32} {a3 : Int32} {z : tq_S} (hB32 : ∀ (b2 : Int32) (z : tq_S), B32 b2 z → tq_T K 1 x mm_X12_rooksOf 32 [.ref 51, .int a1, .int b2, .null, .null] [] z Q) (h : wc_X12_rooksOf_42 B32 Q a1 a2 a3 z) : tq_T K 1 x mm_X12_rooksOf 42 [.ref 51, .int a1, .int a2, .int a3, .null] [] z Q :=
  tq_lp_T (σ := Int32 × tq_S) (s := (a3, z)) (G := fun s => tq_T K 1 x mm_X12_rooksOf 42 [.ref 51, .int a1, .int a2, .int s.1, .null] [] s.2 Q) (fun B hB s h => ab_X12_rooksOf_42 hB32 (fun b3 z h => hB (b3, z) h) h) h
def wc_X12_rooksOf_212 (B182 : Int64 → Int32 → tq_S → Prop) (Q : tq_O → tq_S → Prop) (a1 : Int32) (a4 : Int32) (s0 : Int64) (s1 : Int64) (z : tq_S) : Prop := ∀ v101 : Int64, v101 = (s1 + s0) → ∀ v102 : Int32, v102 = a4 + (1 : Int32) → B182 v101 v102 z
theorem ac_X12_rooksOf_212 {K : Nat × (Nat → Int32)} {x : Nat} {Q : tq_O → tq_S → Prop} {B182 : Int64 → Int32 → tq_S → Prop} {a1 : Int32} {a4 : Int32} {s0 : Int64} {s1 : Int64} {z : tq_S} (hB182 : ∀ (b2 : Int64) (b4 : Int32) (z : tq_S), B182 b2 b4 z → tq_T K 1 x mm_X12_rooksOf 182 [.ref 51, .int a1, .long b2, .null, .int b4] [] z Q) (h : wc_X12_rooksOf_212 B182 Q a1 a4 s0 s1 z) : tq_T K 1 x mm_X12_rooksOf 212 [.ref 51, .int a1, .null, .null, .int a4] [.long s0, .long s1] z Q := by
  unfold wc_X12_rooksOf_212 at h
  refine tq_s_ladd (by decide +kernel) ?_
  refine tq_g_lstore_n (kk := 2) (fun v101 => [.ref 51, .int a1, .long v101, .null, .int a4]) (by decide +kernel) (by decide) (fun _ => rfl) (fun v101 ev101 => ?_)
  replace h := h v101 ev101
  refine tq_g_iinc (i := 4) (fun v102 => [.ref 51, .int a1, .long v101, .null, .int v102]) (by decide +kernel) rfl (1 : Int32) kc_1 (fun _ => rfl) (fun v102 ev102 => ?_)
  replace h := h v102 ev102
  refine tq_s_goto (off := -35) (tgt := 182) (by decide +kernel) (by decide +kernel) ?_
  exact hB182 _ _ _ h
def wb_X12_rooksOf_182 (B182 : Int64 → Int32 → tq_S → Prop) (Q : tq_O → tq_S → Prop) (a1 : Int32) (a2 : Int64) (a4 : Int32) (z : tq_S) : Prop := (((256 : Int32) ≤ a4 → Q (.inl (some (.long a2))) z) ∧ (¬ (256 : Int32) ≤ a4 → wm_X12_bits (Int32.toInt64 a4) z (tq_wi fun r102 z101 => ((¬ r102 = a1 → wc_X12_rooksOf_212 B182 Q a1 a4 (0 : Int64) a2 z101) ∧ (r102 = a1 → vp_in a4 256 ∧ wc_X12_rooksOf_212 B182 Q a1 a4 (tq_al z101 54 (Int32.toNatClampNeg a4)) a2 z101)))))
def wc_X12_rooksOf_182 (Q : tq_O → tq_S → Prop) (a1 : Int32) (a2 : Int64) (a4 : Int32) (z : tq_S) : Prop := tq_lp (σ := Int64 × Int32 × tq_S) (fun B s => wb_X12_rooksOf_182 (fun b2 b4 z => B (b2, b4, z)) Q a1 s.1 s.2.1 s.2.2) (a2, a4, z)
theorem ab_X12_rooksOf_182 {K : Nat × (Nat → Int32)} {x : Nat} {Q : tq_O → tq_S → Prop} {B182 : Int64 → Int32 → tq_S → Prop} {a1 : Int32} {a2 : Int64} {a4 : Int32} {z : tq_S} (hB182 : ∀ (b2 : Int64) (b4 : Int32) (z : tq_S), B182 b2 b4 z → tq_T K 1 x mm_X12_rooksOf 182 [.ref 51, .int a1, .long b2, .null, .int b4] [] z Q) (h : wb_X12_rooksOf_182 B182 Q a1 a2 a4 z) : tq_T K 1 x mm_X12_rooksOf 182 [.ref 51, .int a1, .long a2, .null, .int a4] [] z Q := by
  unfold wb_X12_rooksOf_182 at h
  refine tq_s_iload (i := 4) (by decide +kernel) rfl ?_
  refine tq_k_si (n := 256) (v := (256 : Int32)) (by decide +kernel) ks_256 ?_
  refine tq_icmp_ge (off := 33) (tgt := 220) (by decide +kernel) (by decide +kernel) (fun hc => ?_) (fun hc => ?_)
  · replace h := h.1 hc
    refine tq_s_lload_n (kk := 2) (by decide +kernel) rfl ?_
    exact tq_ret_l (st := []) (by decide +kernel) rfl h
  · replace h := h.2 hc
    refine tq_s_lload_n (kk := 2) (by decide +kernel) rfl ?_
    refine tq_s_iload (i := 4) (by decide +kernel) rfl ?_
    refine tq_s_i2l (by decide +kernel) ?_
    refine tq_callS (as := [.long (Int32.toInt64 a4)]) (st := [.long a2]) (d1 := 0) (x1 := 0) (x2 := x) (by decide +kernel) ln_12_308 mf_X12_bits rfl (by decide) np_X12_bits rfl (Nat.le_of_ble_eq_true rfl) (by decide) (Nat.zero_add _).symm (tq_M_mono (am_X12_bits h) ?_)
    refine tq_wi_e (fun r102 z101 h => ?_)
    refine tq_s_iload_n (kk := 1) (by decide +kernel) rfl ?_
    refine tq_icmp_ne (off := 13) (tgt := 211) (by decide +kernel) (by decide +kernel) (fun hc => ?_) (fun hc => ?_)
    · replace h := h.1 hc
      refine tq_k_lc (n := 0) (v := (0 : Int64)) (by decide +kernel) (by decide +kernel) ?_
      exact tq_to (tq_lk1 (tq_lk1 (tq_ld1 (tq_lk1 (tq_lk1 tq_l0))))) (ac_X12_rooksOf_212 hB182 h)
    · replace h := h.2 hc
      refine tq_s_aload_n (kk := 0) (by decide +kernel) rfl ?_
      refine fg_12_23_51 rfl (by decide +kernel) ?_
      refine tq_s_iload (i := 4) (by decide +kernel) rfl ?_
      refine tq_s_lald (by decide +kernel) sh_54 h.1 ?_
      replace h := h.2
      refine tq_s_goto (off := 4) (tgt := 212) (by decide +kernel) (by decide +kernel) ?_
      exact tq_to (tq_lk1 (tq_lk1 (tq_ld1 (tq_lk1 (tq_lk1 tq_l0))))) (ac_X12_rooksOf_212 hB182 h)
theorem ac_X12_rooksOf_182 {K : Nat × (Nat → Int32)} {x : Nat} {Q : tq_O → tq_S → Prop} {a1 : Int32} {a2 : Int64} {a4 : Int32} {z : tq_S} (h : wc_X12_rooksOf_182 Q a1 a2 a4 z) : tq_T K 1 x mm_X12_rooksOf 182 [.ref 51, .int a1, .long a2, .null, .int a4] [] z Q :=
  tq_lp_T (σ := Int64 × Int32 × tq_S) (s := (a2, a4, z)) (G := fun s => tq_T K 1 x mm_X12_rooksOf 182 [.ref 51, .int a1, .long s.1, .null, .int s.2.1] [] s.2.2 Q) (fun B hB s h => ab_X12_rooksOf_182 (fun b2 b4 z h => hB (b2, b4, z) h) h) h
def wc_X12_rooksOf_177 (Q : tq_O → tq_S → Prop) (a1 : Int32) (z : tq_S) : Prop := wc_X12_rooksOf_182 Q a1 (0 : Int64) (0 : Int32) z
theorem ac_X12_rooksOf_177 {K : Nat × (Nat → Int32)} {x : Nat} {Q : tq_O → tq_S → Prop} {a1 : Int32} {z : tq_S} (h : wc_X12_rooksOf_177 Q a1 z) : tq_T K 1 x mm_X12_rooksOf 177 [.ref 51, .int a1, .null, .null, .null] [] z Q := by
  unfold wc_X12_rooksOf_177 at h
  refine tq_k_lc (n := 0) (v := (0 : Int64)) (by decide +kernel) (by decide +kernel) ?_
  refine tq_s_lstore_n (kk := 2) (L9 := [.ref 51, .int a1, .long (0 : Int64), .null, .null]) (by decide +kernel) (by decide) rfl ?_
  refine tq_k_ic (n := 0) (v := (0 : Int32)) (by decide +kernel) kc_0 ?_
  refine tq_s_istore (i := 4) (L9 := [.ref 51, .int a1, .long (0 : Int64), .null, .int (0 : Int32)]) (by decide +kernel) (by decide) rfl ?_
  exact ac_X12_rooksOf_182 h
def wb_X12_rooksOf_32 (B32 : Int32 → tq_S → Prop) (Q : tq_O → tq_S → Prop) (a1 : Int32) (a2 : Int32) (z : tq_S) : Prop := (((tq_fi z 3266) ≤ a2 → wc_X12_rooksOf_177 Q a1 z) ∧ (¬ (tq_fi z 3266) ≤ a2 → wc_X12_rooksOf_42 B32 Q a1 a2 (0 : Int32) z))
def wc_X12_rooksOf_32 (Q : tq_O → tq_S → Prop) (a1 : Int32) (a2 : Int32) (z : tq_S) : Prop := tq_lp (σ := Int32 × tq_S) (fun B s => wb_X12_rooksOf_32 (fun b2 z => B (b2, z)) Q a1 s.1 s.2) (a2, z)
theorem ab_X12_rooksOf_32 {K : Nat × (Nat → Int32)} {x : Nat} {Q : tq_O → tq_S → Prop} {B32 : Int32 → tq_S → Prop} {a1 : Int32} {a2 : Int32} {z : tq_S} (hB32 : ∀ (b2 : Int32) (z : tq_S), B32 b2 z → tq_T K 1 x mm_X12_rooksOf 32 [.ref 51, .int a1, .int b2, .null, .null] [] z Q) (h : wb_X12_rooksOf_32 B32 Q a1 a2 z) : tq_T K 1 x mm_X12_rooksOf 32 [.ref 51, .int a1, .int a2, .null, .null] [] z Q := by
  unfold wb_X12_rooksOf_32 at h
  refine tq_s_iload_n (kk := 2) (by decide +kernel) rfl ?_
  refine tq_s_aload_n (kk := 0) (by decide +kernel) rfl ?_
  refine fg_12_13_51 rfl (by decide +kernel) ?_
  refine tq_icmp_ge (off := 140) (tgt := 177) (by decide +kernel) (by decide +kernel) (fun hc => ?_) (fun hc => ?_)
  · replace h := h.1 hc
    exact tq_to (tq_lk1 (tq_lk1 (tq_ld1 (tq_lk1 (tq_lk1 tq_l0))))) (ac_X12_rooksOf_177 h)
  · replace h := h.2 hc
    refine tq_k_ic (n := 0) (v := (0 : Int32)) (by decide +kernel) kc_0 ?_
    refine tq_s_istore_n (kk := 3) (L9 := [.ref 51, .int a1, .int a2, .int (0 : Int32), .null]) (by decide +kernel) (by decide) rfl ?_
    exact ac_X12_rooksOf_42 hB32 h
theorem ac_X12_rooksOf_32 {K : Nat × (Nat → Int32)} {x : Nat} {Q : tq_O → tq_S → Prop} {a1 : Int32} {a2 : Int32} {z : tq_S} (h : wc_X12_rooksOf_32 Q a1 a2 z) : tq_T K 1 x mm_X12_rooksOf 32 [.ref 51, .int a1, .int a2, .null, .null] [] z Q :=
  tq_lp_T (σ := Int32 × tq_S) (s := (a2, z)) (G := fun s => tq_T K 1 x mm_X12_rooksOf 32 [.ref 51, .int a1, .int s.1, .null, .null] [] s.2 Q) (fun B hB s h => ab_X12_rooksOf_32 (fun b2 z h => hB (b2, z) h) h) h
def wc_X12_rooksOf_30 (Q : tq_O → tq_S → Prop) (a1 : Int32) (z : tq_S) : Prop := wc_X12_rooksOf_32 Q a1 (0 : Int32) z
theorem ac_X12_rooksOf_30 {K : Nat × (Nat → Int32)} {x : Nat} {Q : tq_O → tq_S → Prop} {a1 : Int32} {z : tq_S} (h : wc_X12_rooksOf_30 Q a1 z) : tq_T K 1 x mm_X12_rooksOf 30 [.ref 51, .int a1, .null, .null, .null] [] z Q := by
  unfold wc_X12_rooksOf_30 at h
  refine tq_k_ic (n := 0) (v := (0 : Int32)) (by decide +kernel) kc_0 ?_
  refine tq_s_istore_n (kk := 2) (L9 := [.ref 51, .int a1, .int (0 : Int32), .null, .null]) (by decide +kernel) (by decide) rfl ?_
  exact ac_X12_rooksOf_32 h
def wb_X12_rooksOf_2 (B2 : Int32 → tq_S → Prop) (Q : tq_O → tq_S → Prop) (a1 : Int32) (a2 : Int32) (z : tq_S) : Prop := (((256 : Int32) ≤ a2 → wc_X12_rooksOf_30 Q a1 z) ∧ (¬ (256 : Int32) ≤ a2 → ((¬ a2 = 0 → wc_X12_rooksOf_23 B2 Q a1 a2 (0 : Int64) a2 z) ∧ (a2 = 0 → wc_X12_rooksOf_23 B2 Q a1 a2 (1 : Int64) a2 z))))
def wc_X12_rooksOf_2 (Q : tq_O → tq_S → Prop) (a1 : Int32) (a2 : Int32) (z : tq_S) : Prop := tq_lp (σ := Int32 × tq_S) (fun B s => wb_X12_rooksOf_2 (fun b2 z => B (b2, z)) Q a1 s.1 s.2) (a2, z)
theorem ab_X12_rooksOf_2 {K : Nat × (Nat → Int32)} {x : Nat} {Q : tq_O → tq_S → Prop} {B2 : Int32 → tq_S → Prop} {a1 : Int32} {a2 : Int32} {z : tq_S} (hB2 : ∀ (b2 : Int32) (z : tq_S), B2 b2 z → tq_T K 1 x mm_X12_rooksOf 2 [.ref 51, .int a1, .int b2, .null, .null] [] z Q) (h : wb_X12_rooksOf_2 B2 Q a1 a2 z) : tq_T K 1 x mm_X12_rooksOf 2 [.ref 51, .int a1, .int a2, .null, .null] [] z Q := by
  unfold wb_X12_rooksOf_2 at h
  refine tq_s_iload_n (kk := 2) (by decide +kernel) rfl ?_
  refine tq_k_si (n := 256) (v := (256 : Int32)) (by decide +kernel) ks_256 ?_
  refine tq_icmp_ge (off := 24) (tgt := 30) (by decide +kernel) (by decide +kernel) (fun hc => ?_) (fun hc => ?_)
  · replace h := h.1 hc
    exact tq_to (tq_lk1 (tq_lk1 (tq_ld1 (tq_lk1 (tq_lk1 tq_l0))))) (ac_X12_rooksOf_30 h)
  · replace h := h.2 hc
    refine tq_s_aload_n (kk := 0) (by decide +kernel) rfl ?_
    refine fg_12_23_51 rfl (by decide +kernel) ?_
    refine tq_s_iload_n (kk := 2) (by decide +kernel) rfl ?_
    refine tq_s_iload_n (kk := 2) (by decide +kernel) rfl ?_
    refine tq_if_ne (off := 7) (tgt := 22) (by decide +kernel) (by decide +kernel) (fun hc => ?_) (fun hc => ?_)
    · replace h := h.1 hc
      refine tq_k_lc (n := 0) (v := (0 : Int64)) (by decide +kernel) (by decide +kernel) ?_
      exact ac_X12_rooksOf_23 hB2 h
    · replace h := h.2 hc
      refine tq_k_lc (n := 1) (v := (1 : Int64)) (by decide +kernel) (by decide +kernel) ?_
      refine tq_s_goto (off := 4) (tgt := 23) (by decide +kernel) (by decide +kernel) ?_
      exact ac_X12_rooksOf_23 hB2 h
theorem ac_X12_rooksOf_2 {K : Nat × (Nat → Int32)} {x : Nat} {Q : tq_O → tq_S → Prop} {a1 : Int32} {a2 : Int32} {z : tq_S} (h : wc_X12_rooksOf_2 Q a1 a2 z) : tq_T K 1 x mm_X12_rooksOf 2 [.ref 51, .int a1, .int a2, .null, .null] [] z Q :=
  tq_lp_T (σ := Int32 × tq_S) (s := (a2, z)) (G := fun s => tq_T K 1 x mm_X12_rooksOf 2 [.ref 51, .int a1, .int s.1, .null, .null] [] s.2 Q) (fun B hB s h => ab_X12_rooksOf_2 (fun b2 z h => hB (b2, z) h) h) h
def wm_X12_rooksOf (a1 : Int32) (z : tq_S) (Q : tq_O → tq_S → Prop) : Prop := wc_X12_rooksOf_2 Q a1 (0 : Int32) z
theorem am_X12_rooksOf {K : Nat × (Nat → Int32)} {x : Nat} {z : tq_S} {Q : tq_O → tq_S → Prop} {a1 : Int32} (h : wm_X12_rooksOf a1 z Q) : tq_M K 1 x mm_X12_rooksOf [.ref 51, .int a1] z Q := by
  unfold wm_X12_rooksOf at h
  refine tq_enter (L := [.ref 51, .int a1, .null, .null, .null]) mf_X12_rooksOf.1 rfl rfl (Nat.le_of_ble_eq_true rfl) ?_
  refine tq_k_ic (n := 0) (v := (0 : Int32)) (by decide +kernel) kc_0 ?_
  refine tq_s_istore_n (kk := 2) (L9 := [.ref 51, .int a1, .int (0 : Int32), .null, .null]) (by decide +kernel) (by decide) rfl ?_
  exact ac_X12_rooksOf_2 h
