/-! ===== the law's numbered: numbers and covers ===== -/
section GM
variable {c w h : Nat} {r : Bool} {S : Nat → Bool} {G : (Nat → Nat) → Nat → Int} {z : tq_S} {b b6 bk : Bool} {p p0 pk : Nat → Nat} {u x : Nat} {g : Int32 → tq_S → Prop} {B34 : Int32 → Int32 → Nat → tq_S → Prop} {Q : tq_O → tq_S → Prop} {a5 a7 v : Int32} {m t T : Nat}
theorem l_leN {a b : Nat} (ha : a < 2 ^ 63) (hb : b < 2 ^ 63) : lN a ≤ lN b ↔ a ≤ b := by
  rw [Int64.le_iff_toInt_le, pk_lT ha, pk_lT hb]; omega
theorem l_ltN {a b : Nat} (ha : a < 2 ^ 63) (hb : b < 2 ^ 63) : lN a < lN b ↔ a < b := by
  rw [Int64.lt_iff_toInt_lt, pk_lT ha, pk_lT hb]; omega
theorem l_eqN {a b : Nat} (ha : a < 2 ^ 63) (hb : b < 2 ^ 63) : lN a = lN b ↔ a = b := by
  refine ⟨fun e => ?_, fun e => by rw [e]⟩
  have : (lN a).toInt = (lN b).toInt := by rw [e]
  rw [pk_lT ha, pk_lT hb] at this
  omega
theorem rk_ur (hd : jd w h r S) (hm : m < cv_T w r 0 S) : rk w r 0 S (ur w r 0 S m) = m := (ur_ok hd.2.1 (jd_r hd) rfl (jd_bh hd) hm).2
theorem nxn_lt (hm : m < t) : nxn t m < t := by unfold nxn; split <;> omega
theorem pvn_lt (hm : m < t) : pvn t m < t := by unfold pvn; split <;> omega
theorem pvn_nxn (hm : m < t) : pvn t (nxn t m) = m := by
  unfold nxn pvn
  by_cases q : t ≤ m + 1
  · rw [if_pos q, if_pos rfl]; omega
  · rw [if_neg q, if_neg (by omega)]; omega
theorem l_nx (hm : m < t) (ht : t ≤ 1853020188851841) : (lN m + (1 : Int64)) - (lN m + (1 : Int64)) / lN t * lN t = lN (nxn t m) := by
  rw [l_1, l_add, l_divN (by omega) (by omega) (by omega), l_mul, l_sub (Nat.div_mul_le_self _ _), Nat.sub_eq_of_eq_add (Nat.mod_add_div' _ _).symm]
  unfold nxn
  by_cases q : t ≤ m + 1
  · have e : m + 1 = t := by omega
    rw [if_pos q, e, Nat.mod_self]
  · rw [if_neg q, Nat.mod_eq_of_lt (by omega)]
theorem tm_b {a : Int} (h0 : 0 < t) : -(t : Int) < a.tmod t ∧ a.tmod t < t := by
  refine ⟨?_, Int.tmod_lt_of_pos a (by omega)⟩
  rcases Int.lt_or_le a 0 with g | g
  · have h1 : a.tmod t = -((-a).tmod t) := by rw [Int.neg_tmod, Int.neg_neg]
    have h2 := Int.tmod_lt_of_pos (-a) (show (0 : Int) < t by omega)
    omega
  · have := Int.tmod_nonneg (t : Int) g
    omega
theorem l_at {a : Int64} (h0 : 0 < t) (ht : t ≤ 1853020188851841) : ((a - a / lN t * lN t) + lN t) - ((a - a / lN t * lN t) + lN t) / lN t * lN t = lN (dm a t) := by
  have tt : (lN t).toInt = (t : Int) := pk_lT (by omega)
  have e1 := l_rem (a := a) h0 (by omega)
  obtain ⟨b1, b2⟩ := tm_b (a := a.toInt) h0
  have e2 : ((a - a / lN t * lN t) + lN t).toInt = a.toInt.tmod t + t := by
    rw [Int64.toInt_add, e1, tt]
    exact Int.bmod_eq_of_le (by omega) (by omega)
  have dl := dm_lt (a := a) h0
  have md := Int.tmod_add_mul_tdiv a.toInt (t : Int)
  have ms := Int.add_mul_emod_self_left (a.toInt.tmod t) (t : Int) (a.toInt.tdiv t)
  rw [md] at ms
  refine l_inj ?_
  rw [l_rem h0 (by omega), e2, pk_lT (Nat.lt_of_lt_of_le dl (by omega)), Int.tmod_eq_emod_of_nonneg (by omega), Int.add_emod_right, ← ms]
  unfold dm
  have nn := Int.emod_nonneg a.toInt (show (t : Int) ≠ 0 by omega)
  omega
theorem nb_173 (hT : T = cv_T w r 0 S) (hm : m < T) (hG : pln w h r S = true → fam w h S G) (h6 : pln w h r S = b6) (hx : 900 ≤ x) (hh : gA c w h r S true (ur w r 0 S m) bk pk u z) (ht : gT w r S u (ur w r 0 S (nxn T m)) z) (k : ∀ x' z' p' p0 u', x ≤ x' + 900 → gA c w h r S true p' true p0 u' z' → B34 1 (a7 + 1) x' z') : wc_L_numbered_173 B34 Q (lN T) a5 (bi b6) a7 (lN m) v v 1 x z := by
  have hd := hh.1.2.1
  have tb := T_b hd
  rw [← hT] at tb
  have n0 : ¬ lN T = 0 := fun e => by
    rw [l_0, l_eqN (by omega) (by omega)] at e
    omega
  unfold wc_L_numbered_173
  refine ⟨fun e => absurd rfl e, fun _ => sL_numT hh (by omega) (fun z1 f1 h1 => ?_)⟩
  rw [rk_ur hd (by omega)]
  refine ⟨fun e => absurd rfl e, fun _ => ⟨x - 402, by omega, sL_undo h1 (gT_f f1 (by decide) ht) (fun m' z2 em h2 => ⟨fun e => absurd e (i_n0 (by have := h1.2.2.2.2.1; omega)), fun _ => sL_numT h2 (by omega) (fun z3 f3 h3 => ⟨n0, ?_⟩)⟩)⟩⟩
  rw [rk_ur hd (by have := nxn_lt hm; omega), l_nx hm tb]
  exact ⟨fun e => absurd rfl e, fun _ => nb_220 hG h6 (by omega) h3 (fun x' z' p' u' hx' h' => k x' z' p' _ u' (by omega) h')⟩
theorem nb_150 (hT : T = cv_T w r 0 S) (hm : m < T) (hG : pln w h r S = true → fam w h S G) (h6 : pln w h r S = b6) (hx : 901 ≤ x) (hh : gA c w h r S true (ur w r 0 S (nxn T m)) bk pk u z) (k : ∀ x' z' p' p0 u', x ≤ x' + 901 → gA c w h r S true p' true p0 u' z' → B34 1 (a7 + 1) x' z') : wc_L_numbered_150 B34 Q (lN T) a5 (bi b6) a7 (lN m) 1 1 x z := by
  have hd := hh.1.2.1
  have tb := T_b hd
  rw [← hT] at tb
  have hn := nxn_lt hm
  unfold wc_L_numbered_150
  intro v1 q1
  have q1 := q1.trans a11
  subst q1
  refine ⟨x - 1, by omega, sL_prev hh (fun z1 h1 t1 => ?_)⟩
  rw [rk_ur hd (by omega), ← hT, pvn_nxn hm] at h1
  rw [rk_ur hd (by omega), l_1, l_add, l_leN (by omega) (by omega)]
  have go : ∀ v, wc_L_numbered_173 B34 Q (lN T) a5 (bi b6) a7 (lN m) v v 1 (x - 1) z1 := fun v => nb_173 hT hm hG h6 (by omega) h1 t1 (fun x' z' p' p0 u' hx' h' => k x' z' p' p0 u' (by omega) h')
  refine ⟨fun q => ?_, fun q => ?_⟩
  · have e : nxn T m = 0 := by unfold nxn; rw [if_pos q]
    rw [e]
    exact go _
  · have e : ¬ nxn T m = 0 := by unfold nxn; rw [if_neg q]; omega
    rw [decide_eq_false e]
    exact go _
theorem nb_124 (hT : T = cv_T w r 0 S) (hm : m < T) (hG : pln w h r S = true → fam w h S G) (h6 : pln w h r S = b6) (hx : 1400 ≤ x) (hh : gA c w h r S true (ur w r 0 S (nxn T m)) bk pk u z) (k : ∀ x' z' p' p0 u', x ≤ x' + 1400 → gA c w h r S true p' true p0 u' z' → B34 1 (a7 + 1) x' z') : wc_L_numbered_124 B34 Q (lN T) a5 (bi b6) a7 (lN m) v v 1 x z := by
  have hd := hh.1.2.1
  have tb := T_b hd
  rw [← hT] at tb
  have n0 : ¬ lN T = 0 := fun e => by
    rw [l_0, l_eqN (by omega) (by omega)] at e
    omega
  unfold wc_L_numbered_124
  refine ⟨fun e => absurd rfl e, fun _ => sL_numT hh (by omega) (fun z1 f1 h1 => ⟨n0, ?_⟩)⟩
  rw [rk_ur hd (by have := nxn_lt hm; omega), l_nx hm tb]
  exact ⟨fun e => absurd rfl e, fun _ => nb_150 hT hm hG h6 (by omega) h1 (fun x' z' p' p0 u' hx' h' => k x' z' p' p0 u' (by omega) h')⟩
theorem nb_73 {a8 : Int64} (hT : T = cv_T w r 0 S) (h0 : 0 < T) (hG : pln w h r S = true → fam w h S G) (h6 : pln w h r S = b6) (hx : 2000 ≤ x) (hh : gA c w h r S true (ur w r 0 S (dm (a8 - (20000 : Int64)) T)) bk pk u z) (k : ∀ x' z' p' p0 u', x ≤ x' + 2000 → gA c w h r S true p' true p0 u' z' → B34 1 (a7 + 1) x' z') : wc_L_numbered_73 B34 Q (lN T) a5 (bi b6) a7 a8 1 1 x z := by
  have hd := hh.1.2.1
  have tb := T_b hd
  rw [← hT] at tb
  have n0 : ¬ lN T = 0 := fun e => by
    rw [l_0, l_eqN (by omega) (by omega)] at e
    omega
  have hm := dm_lt (a := a8 - (20000 : Int64)) h0
  unfold wc_L_numbered_73
  intro v1 q1
  have q1 := q1.trans a11
  subst q1
  refine ⟨n0, n0, fun v2 q2 => ?_⟩
  rw [l_at h0 tb] at q2
  generalize dm (a8 - (20000 : Int64)) T = m at hm hh q2
  subst q2
  refine sL_numT hh (by omega) (fun z1 f1 h1 => ?_)
  rw [rk_ur hd (by omega)]
  refine ⟨fun e => absurd rfl e, fun _ => ⟨x - 402, by omega, sL_next h1 (fun z2 h2 t2 => ?_)⟩⟩
  rw [rk_ur hd (by omega), ← hT] at h2
  rw [rk_ur hd (by omega), ← hT, l_1, l_add, l_leN (by omega) (by omega)]
  have go : ∀ v, wc_L_numbered_124 B34 Q (lN T) a5 (bi b6) a7 (lN m) v v 1 (x - 402) z2 := fun v => nb_124 hT hm hG h6 (by omega) h2 (fun x' z' p' p0 u' hx' h' => k x' z' p' p0 u' (by omega) h')
  refine ⟨fun q => ?_, fun q => ?_⟩
  · rw [decide_eq_true q]
    exact go _
  · rw [decide_eq_false q]
    exact go _
theorem sL_numbered (hT : T = cv_T w r 0 S) (h0 : 0 < T) (hG : pln w h r S = true → fam w h S G) (hh : gA c w h r S b p bk pk u z) (k : ∀ z' b' p' bk' pk' u', gA c w h r S b' p' bk' pk' u' z' → g 1 z') : wm_L_numbered (lN T) z (tq_wi g) := by
  have hd := hh.1.2.1
  have tb := T_b hd
  have n64 := fb_ct_le S 64
  obtain ⟨b6, h6⟩ : ∃ b6, pln w h r S = b6 := ⟨_, rfl⟩
  have main : ∀ z1 y, 10000 ≤ y → gA c w h r S b p bk pk u z1 → wc_L_numbered_29 (tq_wi g) (lN T) 1 (nI (fb_ct S 64)) (bi b6) y z1 := by
    intro z1 y hy h1
    unfold wc_L_numbered_29 wc_L_numbered_34
    refine lp_inv (fun i s => ∃ x' z' b' p' bk' pk' u', s = ((1 : Int32), nI i, x', z') ∧ y ≤ x' + 3000 * i ∧ gA c w h r S b' p' bk' pk' u' z') 2 ?_ ⟨y, z1, b, p, bk, pk, u, rfl, by omega, h1⟩
    rintro i s hi ⟨x', z', b', p', bk', pk', u', rfl, hx', hh'⟩ B hB
    simp only
    unfold wb_L_numbered_34
    rw [i_2, i_le (by omega) (by omega)]
    refine ⟨fun _ => ⟨bi_z (b := true), ⟨_, rfl, k z' _ _ _ _ _ hh'⟩⟩, fun q => ?_⟩
    rw [show (60000 : Int32) = nI 60000 from rfl]
    refine sL_rnd (by omega) (by omega) (fun d z2 hd2 f2 v3 q3 => ⟨x' - 1, by omega, ?_⟩)
    refine sL_draw (gA_f f2 (by decide) hh') (fun e => by omega) (fun _ z3 h3 => ?_)
    rw [i_divN (by omega) (by omega) (by omega)]
    rw [← hT] at h3
    refine ⟨fun e => absurd rfl e, fun _ => nb_73 hT h0 hG h6 (by omega) h3 (fun x'' z'' p'' p0 u'' hx'' h'' => ?_)⟩
    rw [i_1, i_add]
    exact hB (by omega) _ ⟨x'', z'', _, _, _, _, _, rfl, by omega, h''⟩
  unfold wm_L_numbered
  refine ⟨19999, rfl, sL_cells hh ⟨19998, rfl, sL_bySigns hh (fun e => ?_) (fun e z1 h1 t1 => ?_)⟩⟩
  · refine ⟨19598, rfl, sq_toldNo (by decide +kernel) ⟨fun _ => ?_, fun e2 => absurd (by decide +kernel) e2⟩⟩
    have m0 := main z 19598 (by omega) hh
    rw [h6.symm.trans e] at m0
    exact m0
  · refine ⟨19598, rfl, sq_told (neg := false) t1 ⟨fun e2 => ?_, fun _ => ?_⟩⟩
    · have e2 : lN (cv_T w r 0 S) < lN 0 := e2
      rw [l_ltN (by omega) (by omega)] at e2
      omega
    · have m0 := main z1 19598 (by omega) h1
      rw [h6.symm.trans e] at m0
      exact m0
end GM
