/-! ===== the calls: covers, draw, next, previous, number ===== -/
def utk (u : Nat) (b0 : Bool) (z z' : tq_S) : Prop := tq_fi z' 522 = nI (ul u + 1) ∧ (∀ i, i < ul u → tq_ai z' 11 i = tq_ai z 11 (us u i) ∧ tq_al z' 9 i = tq_al z 9 (us u i) ∧ tq_al z' 10 i = tq_al z 10 (us u i)) ∧ tq_ai z' 11 (ul u) = bi b0 ∧ tq_al z' 9 (ul u) = tq_fl z 517 ∧ tq_al z' 10 (ul u) = tq_fl z 518
def cuo (u : Nat) (b0 : Bool) (z : tq_S) : Prop := tq_fi z 522 = nI u ∧ u ≤ 10 ∧ (∀ k, k < u → ∃ b, tq_ai z 11 k = bi b) ∧ tq_fi z 516 = bi b0
def FK : List (Nat × Nat) := [(3, 3), (3, 4), (0, 134), (3, 9), (3, 10), (2, 11), (0, 522), (1, 517), (1, 518), (0, 516), (1, 136), (1, 137)]
/-- a number of the front, as it is kept -/
def fst1 (w h : Nat) (r : Bool) (S : Nat → Bool) (z : tq_S) : Prop := tq_fi z 134 = tq_fi z 68 → fro w h r S z
section OPS
variable {w h : Nat} {r : Bool} {S : Nat → Bool} {z : tq_S} {Q : tq_O → tq_S → Prop} {p : Nat → Nat} {u : Nat} {b0 : Bool}
theorem T_b (hd : jd w h r S) : cv_T w r 0 S ≤ 1853020188851841 := cv_big (fun q => by have := jd_r hd q; omega) (jd_in hd)
theorem jd_bh (hd : jd w h r S) : bh 0 S := fun j hj => ⟨by omega, jd_in hd j hj⟩
theorem sc_covers (hd : jd w h r S) (hj : jc w h r S z) (hc : fst1 w h r S z) (k : ∀ z', fr ([(3, 3), (3, 4), (0, 134)] ++ FT) z z' → fro w h r S z' → tq_fi z' 134 = tq_fi z' 68 → ctx z' (tn false (cv_T w r 0 S)) → Q (.inl (some (.int (nI (tn false (cv_T w r 0 S)).length)))) z') : wm_X11_covers z Q := by
  have hT := T_b hd
  unfold wm_X11_covers
  refine sq_total hd hj hc (fun z1 f1 g1 c1 => ⟨_, rfl, ?_⟩)
  refine sq_say (neg := false) (by omega) (fun q => (by cases q)) (fun z2 f2 t2 => ⟨_, rfl, ?_⟩)
  refine k z2 (fr_t (fr_m (by decide) f1) (fr_m (by decide) f2)) (fro_f f2 (by decide) g1) ?_ t2
  rw [fr_fi f2 (by decide), fr_fi (k := 68) f2 (by decide)]; exact c1
theorem sc_show {m : Nat} (hd : jd w h r S) (hj : jc w h r S z) (hf : fro w h r S z) (hm : m < cv_T w r 0 S) (hu : cuo u b0 z) (k : ∀ z', fr ([(3, 4), (1, 136), (1, 137)] ++ FU) z z' → cvo w r S (ur w r 0 S m) (tq_fl z' 517) (tq_fl z' 518) → tq_fi z' 516 = 1 → utk u b0 z z' → Q (.inl none) z') : wm_X11_show (lN m) z Q := by
  obtain ⟨u1, u2, u3, u4⟩ := hu
  unfold wm_X11_show
  refine sq_cmake hd hj hf hm (fun z1 f1 q1 q2 => ⟨rfl, ?_⟩)
  have a11 : tq_ai z1 11 = tq_ai z 11 := fr_ai f1 (by decide)
  have a9 : tq_al z1 9 = tq_al z 9 := fr_al f1 (by decide)
  have a10 : tq_al z1 10 = tq_al z 10 := fr_al f1 (by decide)
  refine sq_ctake ((fr_fi f1 (by decide)).trans u1) u2 (by rw [a11]; exact u3) ((fr_fi f1 (by decide)).trans u4) (fun z2 f2 v1 v2 v3 v4 v5 v6 v7 v8 => ⟨rfl, ?_⟩)
  rw [a11, a9, a10] at v2
  rw [fr_fl (k := 517) f1 (by decide)] at v4
  rw [fr_fl (k := 518) f1 (by decide)] at v5
  refine k z2 (fr_t (fr_m (by decide) f1) (fr_m (by decide) f2)) ⟨(ur_ok hd.2.1 (jd_r hd) rfl (jd_bh hd) hm).1, ?_, ?_⟩ v8 ⟨v1, v2, v3, v4, v5⟩
  · rw [v6]; exact q1
  · rw [v7]; exact q2
theorem utk_f {z1 z2 : tq_S} {F : List (Nat × Nat)} (hf : fr F z z1) (h1 : (2, 11) ∉ F) (h2 : (3, 9) ∉ F) (h3 : (3, 10) ∉ F) (h4 : (1, 517) ∉ F) (h5 : (1, 518) ∉ F) (hu : utk u b0 z1 z2) : utk u b0 z z2 := by
  obtain ⟨a, b, c, d, e⟩ := hu
  rw [fr_ai hf h1, fr_al hf h2, fr_al hf h3] at b
  rw [fr_fl hf h4] at d
  rw [fr_fl hf h5] at e
  exact ⟨a, b, c, d, e⟩
theorem cuo_f {z1 : tq_S} {F : List (Nat × Nat)} (hf : fr F z z1) (h1 : (0, 522) ∉ F) (h2 : (2, 11) ∉ F) (h3 : (0, 516) ∉ F) (hu : cuo u b0 z) : cuo u b0 z1 := ⟨(fr_fi hf h1).trans hu.1, hu.2.1, by rw [fr_ai hf h2]; exact hu.2.2.1, (fr_fi hf h3).trans hu.2.2.2⟩
theorem sc_draw {a : Int64} (hd : jd w h r S) (hj : jc w h r S z) (hc : fst1 w h r S z) (hu : cuo u b0 z) (k0 : cv_T w r 0 S = 0 → ∀ z', fr [(3, 3), (3, 4), (0, 134)] z z' → fro w h r S z' → tq_fi z' 134 = tq_fi z' 68 → Q (.inr 5) z') (k1 : 0 < cv_T w r 0 S → ∀ z', fr FK z z' → fro w h r S z' → tq_fi z' 134 = tq_fi z' 68 → cvo w r S (ur w r 0 S (dm a (cv_T w r 0 S))) (tq_fl z' 517) (tq_fl z' 518) → tq_fi z' 516 = 1 → utk u b0 z z' → Q (.inl (some (.int (nI (fb_ct S 64 / 2))))) z') : wm_X11_draw a z Q := by
  have hT := T_b hd
  unfold wm_X11_draw
  refine sq_total hd hj hc (fun z1 f1 g1 c1 => ⟨_, rfl, ?_⟩)
  have j1 := jc_f f1 (by decide) (by decide) (by decide) (by decide) hj
  have cmp : (0 : Int64) < lN (cv_T w r 0 S) ↔ 0 < cv_T w r 0 S := by
    rw [show (0 : Int64) = lN 0 from rfl, pk_lLT (by omega) (by omega)]
  refine ⟨fun q => ?_, fun q => ?_⟩
  · rw [cmp] at q
    refine sp_fmod q (by omega) ⟨_, rfl, ?_⟩
    refine sc_show hd j1 g1 (dm_lt q) (cuo_f f1 (by decide) (by decide) (by decide) hu) (fun z2 f2 v2 b2 t2 => ⟨rfl, ?_⟩)
    have j2 := jc_f f2 (by decide) (by decide) (by decide) (by decide) j1
    refine sq_size j2 ⟨_, rfl, ?_⟩
    have b64 := fb_ct_le S 64
    have hdv : nI (fb_ct S 64) / (2 : Int32) = nI (fb_ct S 64 / 2) := by rw [i_2]; exact pk_div (by omega) (by omega) (by omega)
    show Q (.inl (some (.int (nI (fb_ct S 64) / (2 : Int32))))) z2
    rw [hdv]
    refine k1 q z2 (fr_t (fr_m (by decide) f1) (fr_m (by decide) f2)) (fro_f f2 (by decide) g1) ?_ v2 b2 (utk_f f1 (by decide) (by decide) (by decide) (by decide) (by decide) t2)
    rw [fr_fi f2 (by decide), fr_fi (k := 68) f2 (by decide)]; exact c1
  · rw [cmp] at q
    exact k0 (by omega) z1 f1 g1 c1
/-- the numbers behind next and previous -/
def nxn (t n : Nat) : Nat := if t ≤ n + 1 then 0 else n + 1
def pvn (t n : Nat) : Nat := if n = 0 then t - 1 else n - 1
theorem sc_next (hd : jd w h r S) (hj : jc w h r S z) (hc : fst1 w h r S z) (hu : cuo u b0 z) (hp : b0 = true → cvo w r S p (tq_fl z 517) (tq_fl z 518)) (k0 : b0 = false → Q (.inr 5) z) (k1 : b0 = true → ∀ z', fr FK z z' → fro w h r S z' → tq_fi z' 134 = tq_fi z' 68 → cvo w r S (ur w r 0 S (nxn (cv_T w r 0 S) (rk w r 0 S p))) (tq_fl z' 517) (tq_fl z' 518) → tq_fi z' 516 = 1 → utk u b0 z z' → Q (.inl (some (.int (bi (!decide (cv_T w r 0 S ≤ rk w r 0 S p + 1)))))) z') : wm_X11_next z Q := by
  have hT := T_b hd
  unfold wm_X11_next
  rw [hu.2.2.2]
  refine ⟨fun q => ?_, fun q => k0 (bi_0.mp q)⟩
  rw [bi_n] at q
  have hp := hp q
  have rb := rk_ok hd.2.1 (jd_r hd) rfl (jd_bh hd) hp.1
  refine sq_total hd hj hc (fun z1 f1 g1 c1 => ⟨_, rfl, ?_⟩)
  have j1 := jc_f f1 (by decide) (by decide) (by decide) (by decide) hj
  refine sq_crank hd j1 g1 hp.1 (by rw [fr_fl f1 (by decide)]; exact hp.2.1) (by rw [fr_fl f1 (by decide)]; exact hp.2.2) (fun z2 f2 => ⟨_, rfl, fun v e => ?_⟩)
  have f12 : fr [(3, 3), (3, 4), (0, 134)] z z2 := fr_t f1 (fr_m (by decide) f2)
  have j2 := jc_f f2 (by decide) (by decide) (by decide) (by decide) j1
  have g2 := fro_f f2 (by decide) g1
  have c2 : tq_fi z2 134 = tq_fi z2 68 := by rw [fr_fi f2 (by decide), fr_fi (k := 68) f2 (by decide)]; exact c1
  rw [l_1, l_add] at e
  subst e
  have u2 := cuo_f f12 (by decide) (by decide) (by decide) hu
  have go : ∀ m b, m < cv_T w r 0 S → m = nxn (cv_T w r 0 S) (rk w r 0 S p) → b = !decide (cv_T w r 0 S ≤ rk w r 0 S p + 1) → wc_X11_next_76 Q (bi b) (lN m) z2 := by
    intro m b hm em eb
    unfold wc_X11_next_76
    refine sc_show hd j2 g2 hm u2 (fun z3 f3 v3 b3 t3 => ⟨rfl, bi_z, ?_⟩)
    rw [eb]
    rw [em] at v3
    refine k1 q z3 (fr_t (fr_m (by decide) f12) (fr_m (by decide) f3)) (fro_f f3 (by decide) g2) ?_ v3 b3 (utk_f f12 (by decide) (by decide) (by decide) (by decide) (by decide) t3)
    rw [fr_fi f3 (by decide), fr_fi (k := 68) f3 (by decide)]; exact c2
  have cmp : lN (cv_T w r 0 S) ≤ lN (rk w r 0 S p + 1) ↔ cv_T w r 0 S ≤ rk w r 0 S p + 1 := pk_lLE (by omega) (by omega)
  refine ⟨fun q2 => ?_, fun q2 => ?_⟩
  · rw [cmp] at q2
    unfold wc_X11_next_63
    refine ⟨fun _ => go 0 false (by omega) (by unfold nxn; rw [if_pos q2]) (by rw [decide_eq_true q2]; rfl), fun q3 => absurd rfl q3⟩
  · rw [cmp] at q2
    unfold wc_X11_next_63
    refine ⟨fun q3 => absurd q3 (by decide +kernel), fun _ => go (rk w r 0 S p + 1) true (by omega) (by unfold nxn; rw [if_neg q2]) (by rw [decide_eq_false q2]; rfl)⟩
theorem sc_prev (hd : jd w h r S) (hj : jc w h r S z) (hc : fst1 w h r S z) (hu : cuo u b0 z) (hp : b0 = true → cvo w r S p (tq_fl z 517) (tq_fl z 518)) (k0 : b0 = false → Q (.inr 5) z) (k1 : b0 = true → ∀ z', fr FK z z' → fro w h r S z' → tq_fi z' 134 = tq_fi z' 68 → cvo w r S (ur w r 0 S (pvn (cv_T w r 0 S) (rk w r 0 S p))) (tq_fl z' 517) (tq_fl z' 518) → tq_fi z' 516 = 1 → utk u b0 z z' → Q (.inl (some (.int (bi (!decide (rk w r 0 S p = 0)))))) z') : wm_X11_previous z Q := by
  have hT := T_b hd
  unfold wm_X11_previous
  rw [hu.2.2.2]
  refine ⟨fun q => ?_, fun q => k0 (bi_0.mp q)⟩
  rw [bi_n] at q
  have hp := hp q
  have rb := rk_ok hd.2.1 (jd_r hd) rfl (jd_bh hd) hp.1
  refine sq_total hd hj hc (fun z1 f1 g1 c1 => ⟨_, rfl, ?_⟩)
  have j1 := jc_f f1 (by decide) (by decide) (by decide) (by decide) hj
  refine sq_crank hd j1 g1 hp.1 (by rw [fr_fl f1 (by decide)]; exact hp.2.1) (by rw [fr_fl f1 (by decide)]; exact hp.2.2) (fun z2 f2 => ⟨_, rfl, ?_⟩)
  have f12 : fr [(3, 3), (3, 4), (0, 134)] z z2 := fr_t f1 (fr_m (by decide) f2)
  have j2 := jc_f f2 (by decide) (by decide) (by decide) (by decide) j1
  have g2 := fro_f f2 (by decide) g1
  have c2 : tq_fi z2 134 = tq_fi z2 68 := by rw [fr_fi f2 (by decide), fr_fi (k := 68) f2 (by decide)]; exact c1
  have u2 := cuo_f f12 (by decide) (by decide) (by decide) hu
  have go : ∀ m b, m < cv_T w r 0 S → m = pvn (cv_T w r 0 S) (rk w r 0 S p) → b = !decide (rk w r 0 S p = 0) → wc_X11_previous_78 Q (bi b) (lN m) z2 := by
    intro m b hm em eb
    unfold wc_X11_previous_78
    refine sc_show hd j2 g2 hm u2 (fun z3 f3 v3 b3 t3 => ⟨rfl, bi_z, ?_⟩)
    rw [eb]
    rw [em] at v3
    refine k1 q z3 (fr_t (fr_m (by decide) f12) (fr_m (by decide) f3)) (fro_f f3 (by decide) g2) ?_ v3 b3 (utk_f f12 (by decide) (by decide) (by decide) (by decide) (by decide) t3)
    rw [fr_fi f3 (by decide), fr_fi (k := 68) f3 (by decide)]; exact c2
  have cmp : lN (rk w r 0 S p) ≤ (0 : Int64) ↔ rk w r 0 S p = 0 := l_le0 (by omega)
  refine ⟨fun q2 => ?_, fun q2 => ?_⟩
  · rw [cmp] at q2
    unfold wc_X11_previous_61
    refine ⟨fun _ => ?_, fun q3 => absurd rfl q3⟩
    rw [l_1, l_sub (by omega)]
    exact go (cv_T w r 0 S - 1) false (by omega) (by unfold pvn; rw [if_pos q2]) (by rw [decide_eq_true q2]; rfl)
  · rw [cmp] at q2
    unfold wc_X11_previous_61
    refine ⟨fun q3 => absurd q3 (by decide +kernel), fun _ => ?_⟩
    rw [l_1, l_sub (by omega)]
    exact go (rk w r 0 S p - 1) true (by omega) (by unfold pvn; rw [if_neg q2]) (by rw [decide_eq_false q2]; rfl)
end OPS
