/-! ===== the calls: number, other, flips, flip, undo, keep, cuts, signAt ===== -/
section OPS2
variable {w h : Nat} {r : Bool} {S : Nat → Bool} {z : tq_S} {Q : tq_O → tq_S → Prop} {p : Nat → Nat} {u : Nat} {b0 : Bool}
theorem sc_number (hd : jd w h r S) (hj : jc w h r S z) (hc : fst1 w h r S z) (hb : tq_fi z 516 = bi b0) (hp : b0 = true → cvo w r S p (tq_fl z 517) (tq_fl z 518)) (k0 : b0 = false → Q (.inr 5) z) (k1 : b0 = true → ∀ z', fr ([(3, 3), (3, 4), (0, 134)] ++ FT) z z' → fro w h r S z' → tq_fi z' 134 = tq_fi z' 68 → ctx z' (tn false (rk w r 0 S p)) → Q (.inl (some (.int (nI (tn false (rk w r 0 S p)).length)))) z') : wm_X11_number z Q := by
  have hT := T_b hd
  unfold wm_X11_number
  rw [hb]
  refine ⟨fun q => ?_, fun q => k0 (bi_0.mp q)⟩
  rw [bi_n] at q
  have hp := hp q
  have rb := rk_ok hd.2.1 (jd_r hd) rfl (jd_bh hd) hp.1
  refine sq_total hd hj hc (fun z1 f1 g1 c1 => ⟨_, rfl, ?_⟩)
  have j1 := jc_f f1 (by decide) (by decide) (by decide) (by decide) hj
  refine sq_crank hd j1 g1 hp.1 (by rw [fr_fl f1 (by decide)]; exact hp.2.1) (by rw [fr_fl f1 (by decide)]; exact hp.2.2) (fun z2 f2 => ⟨_, rfl, ?_⟩)
  refine sq_say (neg := false) (by omega) (fun q => (by cases q)) (fun z3 f3 t3 => ⟨_, rfl, ?_⟩)
  refine k1 q z3 (fr_t (fr_m (by decide) f1) (fr_t (fr_m (by decide) f2) (fr_m (by decide) f3))) (fro_f f3 (by decide) (fro_f f2 (by decide) g1)) ?_ t3
  rw [fr_fi f3 (by decide), fr_fi (k := 68) f3 (by decide), fr_fi f2 (by decide), fr_fi (k := 68) f2 (by decide)]; exact c1
theorem sr_number (hd : jd w h r S) (hj : jr w h r S z) (hb : tq_fi z 3272 = bi b0) (hp : b0 = true → pc w r S p ∧ rto w r S (fun _ => false) p (tq_ai z 56)) (k0 : b0 = false → ∀ z', fr [(0, 3264)] z z' → tq_fi z' 3264 = 1 → Q (.inl (some (.int 0))) z') (k1 : b0 = true → ∀ z', fr ([(0, 3264), (0, 3279), (2, 60)] ++ FN) z z' → tq_fi z' 3264 = 0 → rt z' (tn false (rk w r 0 S p)) → Q (.inl (some (.int (nI (tn false (rk w r 0 S p)).length)))) z') : wm_X12_number z Q := by
  have hT := T_b hd
  unfold wm_X12_number
  refine sq_hasNone (a := 1) hb (fun z1 f1 e1 => ⟨_, rfl, fun q => ?_, fun q => ?_⟩)
  · have q1 : b0 = true := by rw [bi_0] at q; simpa using q
    rw [q1, if_pos rfl] at e1
    obtain ⟨hp, ht⟩ := hp q1
    have rb := rk_ok hd.2.1 (jd_r hd) rfl (jd_bh hd) hp
    have j1 := jr_f f1 (by decide) (by decide) (by decide) (by decide) hj
    refine sq_rnum hd j1 hp (by rw [fr_ai f1 (by decide)]; exact ht) (fun z2 f2 => ⟨_, rfl, ?_⟩)
    refine sq_rput (neg := false) (by omega) (fun q => (by cases q)) (fun z3 f3 t3 => ⟨_, rfl, ?_⟩)
    refine k1 q1 z3 (fr_t (fr_m (by decide) f1) (fr_t (fr_m (by decide) f2) (fr_m (by decide) f3))) ?_ t3
    rw [fr_fi f3 (by decide), fr_fi f2 (by decide)]; exact e1
  · have q1 : b0 = false := by rw [bi_n] at q; simpa using q
    rw [q1, if_neg Bool.false_ne_true] at e1
    exact k0 q1 z1 f1 e1
theorem i_cf {c : Nat} (h : c < 65536) : tq_nf 2 (nI c) := pk_charN h
theorem sc_other {x y : Int32} (hd : jd w h r S) (hj : jc w h r S z) (hb : tq_fi z 516 = bi b0) (hp : b0 = true → cvo w r S p (tq_fl z 517) (tq_fl z 518)) (k0 : ho w h S x y = false → Q (.inr 3) z) (k1 : ho w h S x y = true → b0 = false → Q (.inr 5) z) (k2 : ∀ a b, x = nI a → y = nI b → a < w → b < h → S (8 * b + a) = true → b0 = true → Q (.inl (some (.int (nI (tc w r p (8 * b + a)))))) z) : wm_X11_other x y z Q := by
  unfold wm_X11_other
  refine sq_holds hd.2.1 hd.2.2.2.1 hj ⟨_, rfl, fun q => ⟨fun q2 => ?_, fun q2 => ?_⟩, fun q => k0 (bi_0.mp q)⟩
  · rw [bi_n] at q
    rw [hb, bi_n] at q2
    obtain ⟨a, b, rfl, rfl, ha, hb', hs⟩ := ho_t hd.2.1 hd.2.2.2.1 q
    have := tc_lt (w := w) (r := r) (p := p) (j := 8 * b + a)
    exact sq_codeAt hd hj (hp q2) ha hb' hs ⟨_, rfl, i_cf (by omega), k2 a b rfl rfl ha hb' hs q2⟩
  · rw [bi_n] at q
    rw [hb, bi_0] at q2
    exact k1 q q2
theorem sr_other {x y : Int32} (hd : jd w h r S) (hj : jr w h r S z) (hb : tq_fi z 3272 = bi b0) (hp : b0 = true → rto w r S (fun _ => false) p (tq_ai z 56)) (k0 : ho w h S x y = false → ∀ z' v, fr [(0, 3264)] z z' → tq_fi z' 3264 = 1 → Q (.inl (some (.int v))) z') (k1 : ho w h S x y = true → b0 = false → ∀ z' v, fr [(0, 3264)] z z' → tq_fi z' 3264 = 2 → Q (.inl (some (.int v))) z') (k2 : ∀ a b, x = nI a → y = nI b → a < w → b < h → S (8 * b + a) = true → b0 = true → ∀ z', fr [(0, 3264)] z z' → tq_fi z' 3264 = 0 → Q (.inl (some (.int (nI (tc w r p (8 * b + a)))))) z') : wm_X12_other x y z Q := by
  have hw8 := hd.2.1
  have hh8 := hd.2.2.2.1
  unfold wm_X12_other
  refine sq_isCell hd.1 hd.2.1 hd.2.2.1 hd.2.2.2.1 hj ⟨_, rfl, fun q => ?_, fun q => ?_⟩
  · rw [bi_n] at q
    have q0 := q
    obtain ⟨a, b, rfl, rfl, ha, hb', hs⟩ := ho_t hd.2.1 hd.2.2.2.1 q
    unfold wc_X12_other_15
    refine sq_isThrown (b := false) (a := 1) (fun z1 f1 e1 => ⟨_, rfl, fun h3 => absurd rfl h3, fun _ => ?_⟩)
    refine sq_hasNone (a := 2) ((fr_fi f1 (by decide)).trans hb) (fun z2 f2 e2 => ⟨_, rfl, fun q2 => ?_, fun q2 => ?_⟩)
    · have q3 : b0 = true := by rw [bi_0] at q2; simpa using q2
      rw [q3, if_pos rfl] at e2
      have a2 : tq_ai z2 56 = tq_ai z 56 := (fr_ai f2 (by decide)).trans (fr_ai f1 (by decide))
      have := tc_lt (w := w) (r := r) (p := p) (j := 8 * b + a)
      rw [i_8, pk_mul, i_add, i_cl (by omega), a2, rto_at (hp q3) (by omega) hs]
      exact ⟨i_in (by omega) (by omega), i_cf (by omega), k2 a b rfl rfl ha hb' hs q3 z2 (fr_t f1 f2) e2⟩
    · have q3 : b0 = false := by rw [bi_n] at q2; simpa using q2
      rw [q3, if_neg Bool.false_ne_true] at e2
      exact k1 q0 q3 z2 _ (fr_t f1 f2) e2
  · rw [bi_0] at q
    unfold wc_X12_other_15
    exact sq_isThrown (b := true) (a := 1) (fun z1 f1 e1 => ⟨_, rfl, fun _ => k0 q z1 _ f1 e1, fun h3 => (by cases h3)⟩)
theorem sc_flips (hd : jd w h r S) (hj : jc w h r S z) (hb : tq_fi z 516 = bi b0) (hp : b0 = true → cvo w r S p (tq_fl z 517) (tq_fl z 518)) (k0 : b0 = false → Q (.inr 5) z) (k1 : b0 = true → Q (.inl (some (.int (nI (fb_ct (fq w h r S p) 64))))) z) : wm_X11_flips z Q := by
  unfold wm_X11_flips
  rw [hb]
  refine ⟨fun q => ?_, fun q => k0 (bi_0.mp q)⟩
  rw [bi_n] at q
  exact sq_cflips hd hj (hp q) ⟨_, rfl, k1 q⟩
theorem sr_flips (hd : jd w h r S) (hj : jr w h r S z) (hb : tq_fi z 3272 = bi b0) (hp : b0 = true → pc w r S p ∧ rto w r S (fun _ => false) p (tq_ai z 56)) (k0 : b0 = false → ∀ z', fr [(0, 3264)] z z' → tq_fi z' 3264 = 1 → Q (.inl (some (.int 0))) z') (k1 : b0 = true → ∀ z', fr [(0, 3264)] z z' → tq_fi z' 3264 = 0 → Q (.inl (some (.int (nI (fb_ct (fq w h r S p) 64))))) z') : wm_X12_flips z Q := by
  unfold wm_X12_flips
  refine sq_hasNone (a := 1) hb (fun z1 f1 e1 => ⟨_, rfl, fun q => ?_, fun q => ?_⟩)
  · have q1 : b0 = true := by rw [bi_0] at q; simpa using q
    rw [q1, if_pos rfl] at e1
    obtain ⟨hp, ht⟩ := hp q1
    have j1 := jr_f f1 (by decide) (by decide) (by decide) (by decide) hj
    exact sq_rflips hd j1 hp (by rw [fr_ai f1 (by decide)]; exact ht) ⟨_, rfl, k1 q1 z1 f1 e1⟩
  · have q1 : b0 = false := by rw [bi_n] at q; simpa using q
    rw [q1, if_neg Bool.false_ne_true] at e1
    exact k0 q1 z1 f1 e1
/-- which flip an index tells -/
def fidx (g : Nat → Bool) (idx : Int32) : Prop := ∃ n : Nat, n < 2147483648 ∧ idx = nI n ∧ n < fb_ct g 64
theorem sc_flip {idx : Int32} (hd : jd w h r S) (hj : jc w h r S z) (hu : cuo u b0 z) (hp : b0 = true → cvo w r S p (tq_fl z 517) (tq_fl z 518)) (k0 : b0 = false → Q (.inr 5) z) (k1 : b0 = true → ¬ fidx (fq w h r S p) idx → Q (.inr 3) z) (k2 : b0 = true → ∀ c, c < 64 → fq w h r S p c = true → idx = nI (fb_ct (fq w h r S p) c) → ∀ z', fr FU z z' → cvo w r S (pf w p c) (tq_fl z' 517) (tq_fl z' 518) → tq_fi z' 516 = 1 → utk u b0 z z' → Q (.inl (some (.int (nI (fb_ct (fq w h r S (pf w p c)) 64))))) z') : wm_X11_flip idx z Q := by
  obtain ⟨u1, u2, u3, u4⟩ := hu
  unfold wm_X11_flip
  rw [u4]
  refine ⟨fun q => ?_, fun q => k0 (bi_0.mp q)⟩
  rw [bi_n] at q
  have hp := hp q
  refine sq_squareOf hd hj hp (fun e => ⟨_, rfl, ?_⟩) (fun c c64 ec ei => ⟨_, rfl, ?_⟩)
  · refine ⟨fun h1 => absurd h1 (by decide +kernel), fun _ => k1 q (fun ⟨n, hn, e1, e2⟩ => ?_)⟩
    have := e n hn e1
    omega
  · refine ⟨fun _ => ?_, fun h1 => absurd (by rw [i_0, i_le (by omega) (by omega)]; omega) h1⟩
    refine sq_rflip hd hp ec (fun vR hR => ⟨_, rfl, ?_⟩)
    refine sq_dflip hd hj hp ec (fun vD hD => ⟨_, rfl, ?_⟩)
    refine sq_ctake u1 u2 u3 u4 (fun z1 f1 v1 v2 v3 v4 v5 v6 v7 v8 => ⟨rfl, ?_⟩)
    have cv : cvo w r S (pf w p c) (tq_fl z1 517) (tq_fl z1 518) := pf_cvo hd hp ec (by rw [v6]; exact hR) (by rw [v7]; exact hD)
    have j1 := jc_f f1 (by decide) (by decide) (by decide) (by decide) hj
    exact sq_cflips hd j1 cv ⟨_, rfl, k2 q c c64 ec ei z1 f1 cv v8 ⟨v1, v2, v3, v4, v5⟩⟩
theorem fidx_c {c : Nat} {g : Nat → Bool} (hc : c < 64) (hg : g c = true) : fidx g (nI (fb_ct g c)) := by
  have h1 := fb_ct_split g c (64 - c)
  have e : c + (64 - c) = 64 := by omega
  rw [e] at h1
  have h2 : fb_ct (fun k => g (c + k)) (64 - c) ≠ 0 := by
    intro q
    rw [fb_ct_zero] at q
    have := q 0 (by omega)
    rw [Nat.add_zero, hg] at this; cases this
  have h3 := fb_ct_le g c
  exact ⟨_, by omega, rfl, by omega⟩
theorem sr_flip {idx : Int32} (hd : jd w h r S) (hj : jr w h r S z) (hu : ruo u b0 z) (hp : b0 = true → pc w r S p ∧ rto w r S (fun _ => false) p (tq_ai z 56)) (k0 : b0 = false → ∀ z', fr [(0, 3264)] z z' → tq_fi z' 3264 = 1 → Q (.inl (some (.int 0))) z') (k1 : b0 = true → ¬ fidx (fq w h r S p) idx → ∀ z', fr [(0, 3264)] z z' → tq_fi z' 3264 = 2 → Q (.inl (some (.int 0))) z') (k2 : b0 = true → ∀ c, c < 64 → fq w h r S p c = true → idx = nI (fb_ct (fq w h r S p) c) → ∀ z', fr [(0, 3264), (2, 56), (2, 58), (2, 59), (0, 3276)] z z' → tq_fi z' 3264 = 0 → rto w r S (fun _ => false) (pf w p c) (tq_ai z' 56) → urk u b0 z z' → Q (.inl (some (.int (nI (fb_ct (fq w h r S (pf w p c)) 64))))) z') : wm_X12_flip idx z Q := by
  unfold wm_X12_flip
  refine sq_hasNone (a := 1) hu.2.2.2 (fun z1 f1 e1 => ⟨_, rfl, fun q => ?_, fun q => ?_⟩)
  · have q1 : b0 = false := by rw [bi_n] at q; simpa using q
    rw [q1, if_neg Bool.false_ne_true] at e1
    exact k0 q1 z1 f1 e1
  · have q1 : b0 = true := by rw [bi_0] at q; simpa using q
    obtain ⟨hp, ht⟩ := hp q1
    have j1 := jr_f f1 (by decide) (by decide) (by decide) (by decide) hj
    have t1 : tq_ai z1 56 = tq_ai z 56 := fr_ai f1 (by decide)
    refine sq_rflips hd j1 hp (by rw [t1]; exact ht) ⟨_, rfl, ?_⟩
    have b64 := fb_ct_le (fq w h r S p) 64
    have key : fi (0 : Int32).toInt (nI (fb_ct (fq w h r S p) 64) - (1 : Int32)).toInt idx = true ↔ fidx (fq w h r S p) idx := by
      unfold fi fidx
      rw [i_z]
      simp only [Bool.and_eq_true, decide_eq_true_eq]
      have hv : (nI (fb_ct (fq w h r S p) 64) - (1 : Int32)).toInt = (fb_ct (fq w h r S p) 64 : Int) - 1 := by
        rw [i_1]; exact pk_sub_toInt (by omega) (by omega)
      rw [hv]
      constructor
      · rintro ⟨a, b⟩
        obtain ⟨n, hn, rfl⟩ := i_ex (x := idx) (by rw [nu_lt, i_z]; omega)
        rw [i_ti hn] at b
        exact ⟨n, hn, rfl, by omega⟩
      · rintro ⟨n, hn, rfl, hlt⟩
        rw [i_ti hn]
        omega
    refine sq_isIn ⟨_, rfl, fun q2 => ?_, fun q2 => ?_⟩
    · rw [bi_n, key] at q2
      obtain ⟨n, hn, rfl, hlt⟩ := q2
      unfold wc_X12_flip_28
      refine sq_isThrown (b := false) (a := 2) (fun z2 f2 e2 => ⟨_, rfl, fun _ => ?_, fun h3 => absurd rfl h3⟩)
      have j2 := jr_f f2 (by decide) (by decide) (by decide) (by decide) j1
      have u2 := ruo_f f2 (by decide) (by decide) (by decide) (ruo_f f1 (by decide) (by decide) (by decide) hu)
      refine sr_keep u2 (fun z3 f3 v3 => ⟨rfl, ?_⟩)
      have j3 := jr_f f3 (by decide) (by decide) (by decide) (by decide) j2
      have t3 : tq_ai z3 56 = tq_ai z 56 := (fr_ai f3 (by decide)).trans ((fr_ai f2 (by decide)).trans t1)
      have ht3 : rto w r S (fun _ => false) p (tq_ai z3 56) := by rw [t3]; exact ht
      refine sq_rfind hd j3 hp ht3 hlt (fun c c64 ec en => ?_)
      refine sq_rflip90 hd j3 hp ht3 ec (fun z4 f4 t4 => ?_)
      have j4 := jr_f f4 (by decide) (by decide) (by decide) (by decide) j3
      unfold wc_X12_flip_169
      refine sq_rflips hd j4 (pf_pc hd hp ec) t4 ⟨_, rfl, ?_⟩
      refine k2 q1 c c64 ec (by rw [en]) z4 (fr_t (fr_m (by decide) f1) (fr_t (fr_m (by decide) f2) (fr_t (fr_m (by decide) f3) (fr_m (by decide) f4)))) ?_ t4 ?_
      · rw [fr_fi f4 (by decide), fr_fi f3 (by decide)]; exact e2
      · exact urk_f f1 (by decide) (by decide) (by decide) (urk_f f2 (by decide) (by decide) (by decide) (urk_l f4 (by decide) (by decide) (by decide) v3))
    · rw [bi_0] at q2
      unfold wc_X12_flip_28
      refine sq_isThrown (b := true) (a := 2) (fun z2 f2 e2 => ⟨_, rfl, fun h3 => (by cases h3), fun _ => k1 q1 (fun u => ?_) z2 (fr_t f1 f2) e2⟩)
      rw [key.mpr u] at q2; cases q2
theorem sc_undo (hu : tq_fi z 522 = nI u) (hu10 : u ≤ 10) (hb : ∀ k, k < u → ∃ b, tq_ai z 11 k = bi b) (k0 : u = 0 → Q (.inr 2) z) (k1 : ∀ m b, u = m + 1 → tq_ai z 11 m = bi b → ∀ z', fr [(0, 522), (1, 517), (1, 518), (0, 516)] z z' → tq_fi z' 522 = nI m → tq_fl z' 517 = tq_al z 9 m → tq_fl z' 518 = tq_al z 10 m → tq_fi z' 516 = bi b → Q (.inl (some (.int (nI m)))) z') : wm_X11_undo z Q := by
  unfold wm_X11_undo
  rw [hu, i_0, i_eq (by omega) (by omega)]
  refine ⟨fun q => ?_, fun q => k0 q⟩
  obtain ⟨m, rfl⟩ : ∃ m, u = m + 1 := ⟨u - 1, by omega⟩
  obtain ⟨b, hbb⟩ := hb m (by omega)
  refine sq_cback hu (by omega) hbb (fun z1 f1 e1 e2 e3 e4 => ⟨rfl, ?_⟩)
  show Q (.inl (some (.int (tq_fi z1 522)))) z1
  rw [e1]
  exact k1 m b rfl hbb z1 f1 e1 e2 e3 e4
theorem sr_undo (hu : tq_fi z 3276 = nI u) (hu10 : u ≤ 10) (hb : ∀ k, k < u → ∃ b, tq_ai z 58 k = bi b) (k0 : u = 0 → ∀ z', fr [(0, 3264)] z z' → tq_fi z' 3264 = 1 → Q (.inl (some (.int 0))) z') (k1 : ∀ m b, u = m + 1 → tq_ai z 58 m = bi b → ∀ z', fr [(0, 3264), (0, 3276), (0, 3272), (2, 56)] z z' → tq_fi z' 3264 = 0 → tq_fi z' 3276 = nI m → tq_fi z' 3272 = bi b → (∀ j, j < 64 → ∀ c, c < 65536 → tq_ai z 59 (64 * m + j) = nI c → tq_ai z' 56 j = nI c) → Q (.inl (some (.int (nI m)))) z') : wm_X12_undo z Q := by
  unfold wm_X12_undo
  rw [hu, i_0, i_eq (by omega) (by omega)]
  refine ⟨fun q => ?_, fun q => ?_⟩
  · obtain ⟨m, rfl⟩ : ∃ m, u = m + 1 := ⟨u - 1, by omega⟩
    obtain ⟨b, hbb⟩ := hb m (by omega)
    unfold wc_X12_undo_13
    refine sq_isThrown (b := false) (a := 1) (fun z1 f1 e1 => ⟨_, rfl, fun _ z2 e2 => ?_, fun h3 => absurd rfl h3⟩)
    rw [fr_fi f1 (by decide), hu, i_1, pk_sub (by omega)] at e2
    have m1 : m + 1 - 1 = m := by omega
    rw [m1] at e2
    have p2 : tq_fi z2 3276 = nI m := by rw [e2]; rfl
    have f2 : fr [(0, 3264), (0, 3276), (0, 3272), (2, 56)] z z2 := by rw [e2]; exact fr_sfi (by decide) (fr_m (by decide) f1)
    rw [p2, i_cl (by omega), fr_ai f2 (by decide), hbb]
    refine ⟨i_in (by omega) (by omega), bi_z, fun z3 e3 => ?_⟩
    have f3 : fr [(0, 3264), (0, 3276), (0, 3272), (2, 56)] z z3 := by rw [e3]; exact fr_sfi (by decide) f2
    have p3 : tq_fi z3 3276 = nI m := by rw [e3]; exact p2
    have h3 : tq_fi z3 3272 = bi b := by rw [e3]; rfl
    have t3 : tq_fi z3 3264 = 0 := by rw [e3]; show tq_fi z2 3264 = 0; rw [e2]; exact e1
    unfold wc_X12_undo_47
    refine lp_inv (fun j s => ∃ z', s = (nI j, z') ∧ fr [(2, 56)] z3 z' ∧ ∀ i, i < j → tq_ai z' 56 i = vp_nar .char (tq_ai z 59 (64 * m + i))) 64 ?_ ⟨z3, rfl, fr_r, fun i hi => by omega⟩
    rintro j s hj ⟨z4, rfl, f4, g4⟩ B hB
    simp only
    unfold wb_X12_undo_47
    rw [i_64]
    refine ⟨fun h1 => ?_, fun h1 => ?_⟩
    · rw [i_le (by omega) (by omega)] at h1
      have : j = 64 := by omega
      subst this
      unfold wc_X12_undo_79
      have p4 : tq_fi z4 3276 = nI m := (fr_fi f4 (by decide)).trans p3
      rw [p4]
      refine k1 m b rfl hbb z4 (fr_t f3 (fr_m (by decide) f4)) ((fr_fi f4 (by decide)).trans t3) p4 ((fr_fi f4 (by decide)).trans h3) (fun i hi c hc e => ?_)
      rw [g4 i hi, e, i_nc hc]
    · rw [i_le (by omega) (by omega)] at h1
      have p4 : tq_fi z4 3276 = nI m := (fr_fi f4 (by decide)).trans p3
      rw [p4, pk_mul, i_add]
      refine ⟨i_in (by omega) (by omega), i_in (by omega) (by omega), fun z5 e5 v e6 => ?_⟩
      rw [i_1, i_add] at e6
      subst e6
      rw [i_cl (by omega), i_cl (by omega), fr_ai (k := 59) f4 (by decide), fr_ai (k := 59) f3 (by decide)] at e5
      refine hB (by omega) _ ⟨z5, rfl, by rw [e5]; exact fr_sai (by decide) f4, fun i hi => ?_⟩
      rw [e5, rw_aie, rw_upd]
      by_cases q2 : i = j
      · rw [if_pos q2, q2]
      · rw [if_neg q2]; exact g4 i (by omega)
  · unfold wc_X12_undo_13
    exact sq_isThrown (b := true) (a := 1) (fun z1 f1 e1 => ⟨_, rfl, fun h3 => (by cases h3), fun _ => k0 q z1 f1 e1⟩)
theorem sc_cuts (hd : jd w h r S) (hj : jc w h r S z) (hb : tq_fi z 516 = bi b0) (hp : b0 = true → cvo w r S p (tq_fl z 517) (tq_fl z 518)) (k0 : b0 = false → Q (.inr 5) z) (k1 : b0 = true → Q (.inl (some (.int (nI (cutn w h r S p))))) z) : wm_X11_cuts z Q := by
  unfold wm_X11_cuts
  rw [hb]
  refine ⟨fun q => ?_, fun q => k0 (bi_0.mp q)⟩
  rw [bi_n] at q
  exact sq_ccuts hd hj (hp q) ⟨_, rfl, k1 q⟩
theorem sr_cuts (hd : jd w h r S) (hj : jr w h r S z) (hb : tq_fi z 3272 = bi b0) (hp : b0 = true → pc w r S p ∧ rto w r S (fun _ => false) p (tq_ai z 56)) (k0 : b0 = false → ∀ z', fr [(0, 3264)] z z' → tq_fi z' 3264 = 1 → Q (.inl (some (.int 0))) z') (k1 : b0 = true → ∀ z', fr [(0, 3264)] z z' → tq_fi z' 3264 = 0 → Q (.inl (some (.int (nI (cutn w h r S p))))) z') : wm_X12_cuts z Q := by
  unfold wm_X12_cuts
  refine sq_hasNone (a := 1) hb (fun z1 f1 e1 => ⟨_, rfl, fun q => ?_, fun q => ?_⟩)
  · have q1 : b0 = true := by rw [bi_0] at q; simpa using q
    rw [q1, if_pos rfl] at e1
    obtain ⟨hp, ht⟩ := hp q1
    have j1 := jr_f f1 (by decide) (by decide) (by decide) (by decide) hj
    exact sq_rcuts hd j1 (by rw [fr_ai f1 (by decide)]; exact ht) ⟨_, rfl, k1 q1 z1 f1 e1⟩
  · have q1 : b0 = false := by rw [bi_n] at q; simpa using q
    rw [q1, if_neg Bool.false_ne_true] at e1
    exact k0 q1 z1 f1 e1
theorem sc_keep (hd : jd w h r S) (hj : jc w h r S z) (hb : tq_fi z 516 = bi b0) (hp : b0 = true → cvo w r S p (tq_fl z 517) (tq_fl z 518)) (k0 : b0 = false → Q (.inr 5) z) (k1 : b0 = true → ∀ z', fr [(1, 520), (1, 521), (0, 519)] z z' → tq_fl z' 520 = tq_fl z 517 → tq_fl z' 521 = tq_fl z 518 → tq_fi z' 519 = 1 → Q (.inl (some (.int (nI (cutn w h r S p))))) z') : wm_X11_keep z Q := by
  unfold wm_X11_keep
  rw [hb]
  refine ⟨fun q => ?_, fun q => k0 (bi_0.mp q)⟩
  rw [bi_n] at q
  unfold wm_X2_store
  intro z1 e1 z2 e2 z3 e3
  subst e1; subst e2; subst e3
  refine ⟨rfl, ?_⟩
  have f3 : fr [(1, 520), (1, 521), (0, 519)] z (tq_sfi (tq_sfl (tq_sfl z 520 (tq_fl z 517)) 521 (tq_fl (tq_sfl z 520 (tq_fl z 517)) 518)) 519 (1 : Int32)) := fr_sfi (by decide) (fr_sfl (by decide) (fr_sfl (by decide) fr_r))
  have j3 := jc_f f3 (by decide) (by decide) (by decide) (by decide) hj
  have hp3 := hp q
  exact sq_ccuts (p := p) hd j3 hp3 ⟨_, rfl, k1 q _ f3 rfl rfl rfl⟩
theorem sr_keepc (hd : jd w h r S) (hj : jr w h r S z) (hb : tq_fi z 3272 = bi b0) (hp : b0 = true → pc w r S p ∧ rto w r S (fun _ => false) p (tq_ai z 56)) (k0 : b0 = false → ∀ z', fr [(0, 3264)] z z' → tq_fi z' 3264 = 1 → Q (.inl (some (.int 0))) z') (k1 : b0 = true → ∀ z', fr [(0, 3264), (0, 3274), (2, 57)] z z' → tq_fi z' 3264 = 0 → tq_fi z' 3274 = 1 → rto w r S (fun _ => false) p (tq_ai z' 57) → Q (.inl (some (.int (nI (cutn w h r S p))))) z') : wm_X12_keep z Q := by
  unfold wm_X12_keep
  refine sq_hasNone (a := 1) hb (fun z1 f1 e1 => ⟨_, rfl, fun q => ?_, fun q => ?_⟩)
  · have q1 : b0 = true := by rw [bi_0] at q; simpa using q
    rw [q1, if_pos rfl] at e1
    obtain ⟨hp, ht⟩ := hp q1
    intro z3 e3
    have f3 : fr [(0, 3264), (0, 3274), (2, 57)] z z3 := by rw [e3]; exact fr_sfi (by decide) (fr_m (by decide) f1)
    have t3 : tq_fi z3 3264 = 0 := by rw [e3]; exact e1
    have k3 : tq_fi z3 3274 = 1 := by rw [e3]; rfl
    unfold wc_X12_keep_17
    refine lp_inv (fun j s => ∃ z', s = (nI j, z') ∧ fr [(2, 57)] z3 z' ∧ ∀ i, i < j → tq_ai z' 57 i = vp_nar .char (tq_ai z 56 i)) 64 ?_ ⟨z3, rfl, fr_r, fun i hi => by omega⟩
    rintro j s hjj ⟨z4, rfl, f4, g4⟩ B hB
    simp only
    unfold wb_X12_keep_17
    rw [i_64]
    have a56 : tq_ai z4 56 = tq_ai z 56 := (fr_ai f4 (by decide)).trans (fr_ai f3 (by decide))
    refine ⟨fun h1 => ?_, fun h1 => ?_⟩
    · rw [i_le (by omega) (by omega)] at h1
      have : j = 64 := by omega
      subst this
      unfold wc_X12_keep_41
      have f34 : fr [(0, 3264), (0, 3274), (2, 57)] z z4 := fr_t f3 (fr_m (by decide) f4)
      have j4 := jr_f f34 (by decide) (by decide) (by decide) (by decide) hj
      refine sq_rcuts hd j4 (by rw [a56]; exact ht) ⟨_, rfl, k1 q1 z4 f34 ((fr_fi f4 (by decide)).trans t3) ((fr_fi f4 (by decide)).trans k3) (fun i hi hs _ => ?_)⟩
      have := tc_lt (w := w) (r := r) (p := p) (j := i)
      rw [g4 i hi, rto_at ht hi hs, i_nc (by omega)]
    · rw [i_le (by omega) (by omega)] at h1
      refine ⟨i_in (by omega) (by omega), i_in (by omega) (by omega), fun z5 e5 v e6 => ?_⟩
      rw [i_1, i_add] at e6
      subst e6
      rw [i_cl (by omega), a56] at e5
      refine hB (by omega) _ ⟨z5, rfl, by rw [e5]; exact fr_sai (by decide) f4, fun i hi => ?_⟩
      rw [e5, rw_aie, rw_upd]
      by_cases q2 : i = j
      · rw [if_pos q2, q2]
      · rw [if_neg q2]; exact g4 i (by omega)
  · have q1 : b0 = false := by rw [bi_n] at q; simpa using q
    rw [q1, if_neg Bool.false_ne_true] at e1
    exact k0 q1 z1 f1 e1
/-! a sign of the text -/
theorem sc_signAt {x : Int32} {l : List Nat} (hl : ctx z l) (hc : ∀ c, c ∈ l → c < 65536) (k0 : (∀ n : Nat, n < l.length → x ≠ nI n) → Q (.inr 3) z) (k1 : ∀ n c, x = nI n → l[n]? = some c → Q (.inl (some (.int (nI c)))) z) : wm_X11_signAt x z Q := by
  obtain ⟨l1, l2, l3⟩ := hl
  unfold wm_X11_signAt wc_X11_signAt_12
  rw [l1]
  refine ⟨fun q => k0 (fun n hn e => ?_), fun q => ⟨fun q2 => ?_, fun q2 => k0 (fun n hn e => ?_)⟩⟩
  · rw [e] at q; exact absurd q (i_n0 (by omega))
  · obtain ⟨n, hn, rfl⟩ := i_ex q
    rw [i_lt hn (by omega)] at q2
    have hs : l[n]? = some l[n] := List.getElem?_eq_getElem q2
    rw [i_cl hn, l2 n _ hs]
    exact ⟨i_in (by omega) (by omega), i_cf (hc _ (List.getElem_mem q2)), k1 n _ rfl hs⟩
  · rw [e, i_lt (by omega) (by omega)] at q2
    exact q2 hn
theorem sr_signAt {x : Int32} {l : List Nat} (hl : rt z l) (hlen : l.length ≤ 307) (hc : ∀ c, c ∈ l → c < 65536) (k0 : (∀ n : Nat, n < l.length → x ≠ nI n) → ∀ z' v, fr [(0, 3264)] z z' → tq_fi z' 3264 = 1 → Q (.inl (some (.int v))) z') (k1 : ∀ n c, x = nI n → l[n]? = some c → ∀ z', fr [(0, 3264)] z z' → tq_fi z' 3264 = 0 → Q (.inl (some (.int (nI c)))) z') : wm_X12_signAt x z Q := by
  obtain ⟨l1, l2⟩ := hl
  unfold wm_X12_signAt
  rw [l1]
  have key : fi (0 : Int32).toInt (nI l.length - (1 : Int32)).toInt x = true ↔ ∃ n : Nat, n < l.length ∧ x = nI n := by
    unfold fi
    rw [i_z]
    simp only [Bool.and_eq_true, decide_eq_true_eq]
    have hv : (nI l.length - (1 : Int32)).toInt = (l.length : Int) - 1 := by
      rw [i_1]; exact pk_sub_toInt (by omega) (by omega)
    rw [hv]
    constructor
    · rintro ⟨a, b⟩
      obtain ⟨n, hn, rfl⟩ := i_ex (x := x) (by rw [nu_lt, i_z]; omega)
      rw [i_ti hn] at b
      exact ⟨n, by omega, rfl⟩
    · rintro ⟨n, hn, rfl⟩
      rw [i_ti (by omega)]
      omega
  refine sq_isIn ⟨_, rfl, fun q => ?_, fun q => ?_⟩
  · rw [bi_n, key] at q
    obtain ⟨n, hn, rfl⟩ := q
    unfold wc_X12_signAt_20
    refine sq_isThrown (b := false) (a := 1) (fun z1 f1 e1 => ⟨_, rfl, fun _ => ?_, fun h3 => absurd rfl h3⟩)
    have hs : l[n]? = some l[n] := List.getElem?_eq_getElem hn
    rw [i_cl (by omega), fr_ai f1 (by decide), l2 n _ hs]
    exact ⟨i_in (by omega) (by omega), i_cf (hc _ (List.getElem_mem hn)), k1 n _ rfl hs z1 f1 e1⟩
  · rw [bi_0] at q
    unfold wc_X12_signAt_20
    refine sq_isThrown (b := true) (a := 1) (fun z1 f1 e1 => ⟨_, rfl, fun h3 => (by cases h3), fun _ => k0 (fun n hn e => ?_) z1 _ f1 e1⟩)
    rw [key.mpr ⟨n, hn, e⟩] at q; cases q
end OPS2
