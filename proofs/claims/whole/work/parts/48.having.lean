/-! ===== the table of pieces, and having ===== -/
def hvt (w h : Nat) (r : Bool) (S : Nat → Bool) (z : tq_S) : Prop := ∀ x y W, x < w → y < h → wpc w r x W → S (8 * y + x) = true → S (ot w x y W) = true → tq_al z 7 (hdx w x y W) = lN (cv_T w r 0 (cv_rm S (8 * y + x) (ot w x y W)))
def hvp (w h : Nat) (r : Bool) (S : Nat → Bool) (p : Nat) (z : tq_S) : Prop := ∀ x y W, x < w → y < h → wpc w r x W → S (8 * y + x) = true → S (ot w x y W) = true → tq_al z 7 (hdx w x y W) = if 8 * y + x < p then lN (cv_T w r 0 (cv_rm S (8 * y + x) (ot w x y W))) else 0
def FH : List (Nat × Nat) := [(3, 3), (3, 4), (0, 134), (3, 5), (3, 6), (3, 7), (0, 135)]
section HVT
variable {w h : Nat} {r : Bool} {S : Nat → Bool} {z : tq_S} {Q : tq_O → tq_S → Prop}
theorem hdx_lt {x y W : Nat} (bw : w ≤ 8) (bw1 : 1 ≤ w) (bhh : h ≤ 8) (hx : x < w) (hy : y < h) (hp : wpc w r x W) : hdx w x y W < 128 := by
  have g1 : hdx w x y 1 = 2 * (8 * y + x) := rfl
  have g2 : hdx w x y 2 = 2 * (8 * y + x) + 1 := rfl
  have g3 : hdx w x y 3 = 2 * (8 * y + (w - 1)) := rfl
  rcases hp with ⟨rfl, p⟩ | rfl | ⟨rfl, p, p2⟩ <;> omega
theorem fce_g {F : List (Nat × Nat)} {z1 : tq_S} {b : Option Nat} {y x0 : Nat} (hf : fr F z z1) (h4 : (3, 4) ∉ F) (hg : fce w r S b y x0 z) : fce w r S b y x0 z1 := fun x h1 h2 st hv => by rw [fr_al hf h4]; exact hg x h1 h2 st hv
theorem sq_fillHaving (hd : jd w h r S) (hj : jc w h r S z) (hc : tq_fi z 134 = tq_fi z 68 → fro w h r S z) (hh : tq_fi z 135 = tq_fi z 68 → hvt w h r S z) (k : ∀ z', fr FH z z' → hvt w h r S z' → tq_fi z' 135 = tq_fi z' 68 → (tq_fi z' 134 = tq_fi z' 68 → fro w h r S z') → Q (.inl none) z') : wm_X5_fillHaving z Q := by
  have hw8 := hd.2.1
  have hw1 := hd.1
  have hh8 := hd.2.2.2.1
  have hh1 := hd.2.2.1
  obtain ⟨N, hN⟩ : ∃ N : Nat, N = 512 := ⟨_, rfl⟩
  obtain ⟨M, hM2⟩ : ∃ M : Nat, M = 2048 := ⟨_, rfl⟩
  have hM : M = 4 * N := by omega
  unfold wm_X5_fillHaving
  refine ⟨fun h1 => ?_, fun h1 => k z fr_r (hh h1) h1 hc⟩
  refine sq_total hd hj hc (fun z1 f1 g1 c1 => ⟨_, rfl, ?_⟩)
  refine fw_J7_fill_d0a16_r2 ⟨rfl, ?_⟩
  refine fw_J7_fill_d0a16_r3 ⟨rfl, ?_⟩
  intro z5 e5
  have f15 : fr [(3, 7), (3, 5)] z1 z5 := by
    rw [e5]; unfold fl_l
    exact fr_sal (by decide) (fr_sal (by decide) (fr_sal (by decide) fr_r))
  have f5 : fr FH z z5 := fr_t (fr_m (by decide) f1) (fr_m (by decide) f15)
  have a5 : ∀ st, st < 512 → tq_al z5 5 st = lN (hY w h r S M 0 st) := by
    intro st hst
    show _ = lN (if st = 0 then 1 else 0)
    rw [e5, rw_ale, rw_updL, i_0, i_cl (by omega)]
    by_cases q : st = 0
    · rw [if_pos q, if_pos q]; rfl
    · rw [if_neg q, if_neg q]
      unfold fl_l
      rw [rw_ale]
      show (if 0 ≤ st ∧ st < 512 then (0 : Int64) else _) = _
      rw [if_pos ⟨by omega, hst⟩]; rfl
  have a7 : hvp w h r S (8 * 0) z5 := by
    intro x y W hx hy hp _ _
    have hl := hdx_lt hw8 hw1 hh8 hx hy hp
    rw [if_neg (by omega)]
    have e7 : tq_al z5 7 = tq_al (fl_l z1 7 0 128 0) 7 := by
      rw [e5]
      have f' : fr [(3, 5)] (fl_l z1 7 0 128 0) (tq_sal (fl_l (fl_l z1 7 0 128 0) 5 0 512 0) 5 (vp_updL (tq_al (fl_l (fl_l z1 7 0 128 0) 5 0 512 0) 5) (Int32.toNatClampNeg 0) 1)) := by
        refine fr_sal (by decide) ?_
        unfold fl_l
        exact fr_sal (by decide) fr_r
      exact fr_al f' (by decide)
    rw [e7]
    unfold fl_l
    rw [rw_ale]
    show (if 0 ≤ hdx w x y W ∧ hdx w x y W < 128 then (0 : Int64) else _) = _
    rw [if_pos ⟨by omega, hl⟩]
  unfold wc_X5_fillHaving_45
  refine lp_inv (fun y t => ∃ z', t = (nI y, z') ∧ fr FH z z' ∧ fro w h r S z' ∧ (∀ st, st < 512 → tq_al z' 5 st = lN (hY w h r S M y st)) ∧ hvp w h r S (8 * y) z') h ?_ ⟨z5, rfl, f5, fro_f f15 (by decide) g1, a5, a7⟩
  rintro y t hyh ⟨z6, rfl, f6, g6, a6, v6⟩ B hB
  simp only
  have j6 := jc_f f6 (by decide) (by decide) (by decide) (by decide) hj
  unfold wb_X5_fillHaving_45
  rw [j6.2.1]
  refine ⟨fun h2 => ?_, fun h2 => ?_⟩
  · rw [i_le (by omega) (by omega)] at h2
    have : y = h := by omega
    subst this
    unfold wc_X5_fillHaving_117
    intro z7 e7
    have f67 : fr [(0, 135)] z6 z7 := by rw [e7]; exact fr_sfi (by decide) fr_r
    refine k z7 (fr_t f6 (fr_m (by decide) f67)) (fun x y' W hx hy hp sa sb => ?_) (by rw [e7, rw_fie]; rfl) (fun _ => fro_f f67 (by decide) g6)
    rw [fr_al f67 (by decide), v6 x y' W hx hy hp sa sb, if_pos (by omega)]
  · rw [i_le (by omega) (by omega)] at h2
    have hy : y < h := by omega
    refine sq_prep (b := none) hd j6 hy (fun m e => (by cases e)) (g6 (y + 1) (by omega)) (fun z7 f7 g7 => ⟨rfl, ?_⟩)
    unfold wc_X5_fillHaving_64
    refine lp_inv (fun x t => ∃ z', t = (nI x, z') ∧ fr FH z z' ∧ fro w h r S z' ∧ fce w r S none y 0 z' ∧ (∀ st, st < 512 → tq_al z' 5 st = lN (hX w h r S M y (hY w h r S M y) x st)) ∧ hvp w h r S (8 * y + x) z') w ?_ ⟨z7, rfl, fr_t f6 (fr_m (by decide) f7), fro_f f7 (by decide) g6, g7, fun st hst => by rw [fr_al f7 (by decide)]; exact a6 st hst, fun x' y' W hx hy hp sa sb => by rw [fr_al f7 (by decide)]; exact v6 x' y' W hx hy hp sa sb⟩
    rintro x t hxw ⟨z8, rfl, f8, g8, c8, a8, v8⟩ B2 hB2
    simp only
    have j8 := jc_f f8 (by decide) (by decide) (by decide) (by decide) hj
    unfold wb_X5_fillHaving_64
    rw [j8.1]
    refine ⟨fun h3 => ?_, fun h3 => ?_⟩
    · rw [i_le (by omega) (by omega)] at h3
      have : x = w := by omega
      subst this
      unfold wc_X5_fillHaving_111
      intro v e
      rw [i_1, i_add] at e
      subst e
      refine hB hy _ ⟨z8, rfl, f8, g8, fun st hst => by rw [hY_S]; exact a8 st hst, fun x' y' W hx' hy' hp sa sb => ?_⟩
      rw [v8 x' y' W hx' hy' hp sa sb]
      by_cases q : 8 * y' + x' < 8 * y + x
      · rw [if_pos q, if_pos (by omega)]
      · rw [if_neg q, if_neg (by omega)]
    · rw [i_le (by omega) (by omega)] at h3
      have hx : x < w := by omega
      refine fw_J7_fill_d0a16_r4 ⟨rfl, ?_⟩
      have f9 : fr [(3, 6)] z8 (fl_l z8 6 0 512 0) := by unfold fl_l; exact fr_sal (by decide) fr_r
      have j9 := jc_f f9 (by decide) (by decide) (by decide) (by decide) j8
      refine sq_goOn (C := hX w h r S M y (hY w h r S M y) x) hd j9 hx hy (fce_g f9 (by decide) c8) (fun st hst => by rw [fr_al f9 (by decide)]; exact a8 st hst) (fun st u => (supX hd (fun st u => (supY hd y st u).1) x (by omega) st u).1) (fun n hn => ?_) (fun z10 f10 g10 t10 => ⟨rfl, ?_⟩)
      · unfold fl_l
        rw [rw_ale]
        show (if 0 ≤ n ∧ n < 512 then (0 : Int64) else _) = _
        rw [if_pos ⟨by omega, hn⟩]
      · rw [← hM2] at g10 t10
        have f810 : fr [(3, 6), (3, 7)] z8 z10 := fr_t (fr_m (by decide) f9) f10
        show (¬ (0 : Int32) < 0) ∧ _
        rw [i_512, i_cl (by omega), i_0, i_cl (by omega)]
        refine ⟨i_n0 (by omega), i_n0 (by omega), i_n0 (by omega), by omega, by omega, fun z11 e11 v12 e12 => ?_⟩
        rw [i_1, i_add] at e12
        subst e12
        have f11 : fr [(3, 5)] z10 z11 := by rw [e11]; exact fr_sal (by decide) fr_r
        have f811 : fr [(3, 6), (3, 7), (3, 5)] z8 z11 := fr_t (fr_m (by decide) f810) (fr_m (by decide) f11)
        refine hB2 hx _ ⟨z11, rfl, fr_t f8 (fr_m (by decide) f811), fro_f f811 (by decide) g8, fce_g f811 (by decide) c8, fun st hst => ?_, fun x' y' W hx' hy' hp sa sb => ?_⟩
        · rw [e11, rw_ale, pk_cpy_in (by omega) (by omega)]
          have e13 : 0 + (st - 0) = st := by omega
          rw [e13, g10 st hst, hX_S]
        · have hl := hdx_lt hw8 hw1 hh8 hx' hy' hp
          have e14 : tq_al (fl_l z8 6 0 512 0) 7 = tq_al z8 7 := fr_al f9 (by decide)
          rw [fr_al f11 (by decide), t10 _ hl, e14, v8 x' y' W hx' hy' hp sa sb]
          by_cases q : 8 * y' + x' = 8 * y + x
          · have q1 : x' = x := by omega
            have q2 : y' = y := by omega
            subst q1
            subst q2
            rw [if_neg (by omega), if_pos (by omega), hT_self hd hN hM hx hy hp sa sb, Int64.zero_add]
          · rw [hT_oth hd hN hM hx hy hx' hy' hp q, ← l_0, Int64.add_zero]
            by_cases q3 : 8 * y' + x' < 8 * y + x
            · rw [if_pos q3, if_pos (by omega)]
            · rw [if_neg q3, if_neg (by omega)]
/-- a piece that a call names -/
def pcn (w h : Nat) (r : Bool) (S : Nat → Bool) (X Y D : Int32) (x y o : Nat) : Prop := X = nI x ∧ Y = nI y ∧ x < w ∧ y < h ∧ S (8 * y + x) = true ∧ bs w h r (8 * y + x) (if D = 0 then 2 else 0) = some o ∧ S o = true
theorem sq_isPiece {X Y D : Int32} (hd : jd w h r S) (hj : jc w h r S z) (k0 : (∀ x y o, ¬ pcn w h r S X Y D x y o) → Q (.inl (some (.int 0))) z) (k1 : ∀ x y o, pcn w h r S X Y D x y o → Q (.inl (some (.int 1))) z) : wm_X1_isPiece X Y D z Q := by
  have hw8 := hd.2.1
  have hw1 := hd.1
  have hh8 := hd.2.2.2.1
  have hh1 := hd.2.2.1
  unfold wm_X1_isPiece
  refine sq_holds hw8 hh8 hj ⟨_, rfl, fun h1 => ?_, fun h1 => ?_⟩
  · rw [bi_n] at h1
    obtain ⟨x, y, rfl, rfl, hx, hy, sa⟩ := ho_t hw8 hh8 h1
    have cd : (8 * y + x) / 8 = y := by omega
    have cm : (8 * y + x) % 8 = x := by omega
    have uq : ∀ {x' y' o'}, pcn w h r S (nI x) (nI y) D x' y' o' → x' = x ∧ y' = y := by
      rintro x' y' o' ⟨q1, q2, q3, q4, -⟩
      rw [i_eq (by omega) (by omega)] at q1 q2
      exact ⟨q1.symm, q2.symm⟩
    refine ⟨fun h2 => ?_, fun h2 => ?_⟩
    · have eb : bs w h r (8 * y + x) (if D = 0 then 2 else 0) = if y + 1 < h then some (8 * y + x + 8) else none := by
        rw [if_pos h2]; unfold bs
        rw [if_neg (by omega), if_neg (by omega), if_pos rfl, cd]
      rw [i_1, i_add]
      refine sq_holds hw8 hh8 hj ⟨_, rfl, bi_z, ?_⟩
      show Q (.inl (some (.int (bi (ho w h S (nI x) (nI (y + 1))))))) z
      rw [ho_n (by omega) (by omega), decide_eq_true hx, Bool.true_and]
      have e8 : 8 * (y + 1) + x = 8 * y + x + 8 := by omega
      rw [e8]
      cases q : (decide (y + 1 < h) && S (8 * y + x + 8))
      · refine k0 (fun x' y' o' u => ?_)
        obtain ⟨q1, q2⟩ := uq u
        subst q1
        subst q2
        obtain ⟨-, -, -, -, -, q3, q4⟩ := u
        rw [eb] at q3
        split at q3
        · cases q3
          rename_i q5
          rw [decide_eq_true q5, q4] at q; cases q
        · cases q3
      · simp only [Bool.and_eq_true, decide_eq_true_eq] at q
        exact k1 x y (8 * y + x + 8) ⟨rfl, rfl, hx, hy, sa, by rw [eb, if_pos q.1], q.2⟩
    · have eb : bs w h r (8 * y + x) (if D = 0 then 2 else 0) = if x + 1 < w then some (8 * y + x + 1) else if r = true then some (8 * y + x - (w - 1)) else none := by
        rw [if_neg h2]; unfold bs
        rw [if_pos rfl, cm]
      refine sq_rightOf hd hj hx ⟨_, rfl, ?_⟩
      refine sq_holds hw8 hh8 hj ⟨_, rfl, bi_z, ?_⟩
      have no : (bs w h r (8 * y + x) (if D = 0 then 2 else 0) = none ∨ ∃ o, bs w h r (8 * y + x) (if D = 0 then 2 else 0) = some o ∧ S o = false) → Q (.inl (some (.int 0))) z := by
        intro u
        refine k0 (fun x' y' o' v => ?_)
        obtain ⟨q1, q2⟩ := uq v
        subst q1
        subst q2
        obtain ⟨-, -, -, -, -, q3, q4⟩ := v
        rcases u with u | ⟨o, u1, u2⟩
        · rw [u] at q3; cases q3
        · rw [u1] at q3; cases q3; rw [u2] at q4; cases q4
      by_cases q1 : x + 1 < w
      · rw [if_pos q1] at eb
        show Q (.inl (some (.int (bi (ho w h S (if x + 1 < w then nI (x + 1) else if r = true then nI 0 else -1) (nI y)))))) z
        rw [if_pos q1, ho_n (by omega) (by omega), decide_eq_true q1, decide_eq_true hy, Bool.true_and, Bool.true_and, ← Nat.add_assoc]
        cases q : S (8 * y + x + 1)
        · exact no (Or.inr ⟨_, eb, q⟩)
        · exact k1 x y _ ⟨rfl, rfl, hx, hy, sa, eb, q⟩
      · rw [if_neg q1] at eb
        show Q (.inl (some (.int (bi (ho w h S (if x + 1 < w then nI (x + 1) else if r = true then nI 0 else -1) (nI y)))))) z
        rw [if_neg q1]
        by_cases q2 : r = true
        · rw [if_pos q2] at eb ⊢
          have e0 : 8 * y + x - (w - 1) = 8 * y + 0 := by omega
          rw [e0] at eb
          rw [ho_n (by omega) (by omega), decide_eq_true (by omega : 0 < w), decide_eq_true hy, Bool.true_and, Bool.true_and]
          cases q : S (8 * y + 0)
          · exact no (Or.inr ⟨_, eb, q⟩)
          · exact k1 x y _ ⟨rfl, rfl, hx, hy, sa, eb, q⟩
        · rw [if_neg q2] at eb ⊢
          have e0 : ho w h S (-1 : Int32) (nI y) = false := by
            have : (-1 : Int32).toInt = -1 := by decide +kernel
            unfold ho
            rw [this]; rfl
          rw [e0]
          exact no (Or.inl eb)
  · rw [bi_0] at h1
    refine k0 (fun x y o u => ?_)
    obtain ⟨q1, q2, hx, hy, sa, -⟩ := u
    rw [q1, q2, ho_n (by omega) (by omega), decide_eq_true hx, decide_eq_true hy, sa] at h1
    cases h1
theorem sq_pieceOther {X Y D : Int32} (hd : jd w h r S) (hj : jr w h r S z) (k0 : (∀ x y o, ¬ pcn w h r S X Y D x y o) → Q (.inl (some (.int (-1)))) z) (k1 : ∀ x y o, pcn w h r S X Y D x y o → Q (.inl (some (.int (nI o)))) z) : wm_X12_pieceOther X Y D z Q := by
  have hw8 := hd.2.1
  have hw1 := hd.1
  have hh8 := hd.2.2.2.1
  have hh1 := hd.2.2.1
  unfold wm_X12_pieceOther
  refine sq_isCell hw1 hw8 hh1 hh8 hj ⟨_, rfl, fun h1 => ?_, fun h1 => ?_⟩
  · rw [bi_n] at h1
    obtain ⟨x, y, rfl, rfl, hx, hy, sa⟩ := ho_t hw8 hh8 h1
    have uq : ∀ {x' y' o'}, pcn w h r S (nI x) (nI y) D x' y' o' → x' = x ∧ y' = y := by
      rintro x' y' o' ⟨q1, q2, q3, q4, -⟩
      rw [i_eq (by omega) (by omega)] at q1 q2
      exact ⟨q1.symm, q2.symm⟩
    have go : ∀ kk, kk < 4 → kk = (if D = 0 then 2 else 0) → wc_X12_pieceOther_27 Q (nI kk) (nI (8 * y + x)) z := by
      intro kk hk ek
      unfold wc_X12_pieceOther_27
      refine sq_rbes hd hj (by omega) (by omega) hk ⟨_, rfl, fun h2 => ?_, fun h2 => ?_⟩
      · refine k0 (fun x' y' o' u => ?_)
        obtain ⟨q1, q2⟩ := uq u
        subst q1
        subst q2
        obtain ⟨-, -, -, -, -, q3, q4⟩ := u
        rw [← ek] at q3
        have o64 := jd_in hd _ q4
        rw [q3] at h2
        have e2 : nI o' = (-1 : Int32) := h2
        rw [nu_eq, i_ti (by omega)] at e2
        have : (-1 : Int32).toInt = -1 := by decide +kernel
        omega
      · cases eo : bs w h r (8 * y + x) kk with
        | none => rw [eo] at h2; exact absurd rfl h2
        | some o =>
          have o64 := (bs_in hw8 hh8 (by omega) (by omega) eo).1
          show vp_in (nI o) 64 ∧ ((tq_ai z 52 (Int32.toNatClampNeg (nI o)) = 0 → Q (.inl (some (.int (-1)))) z) ∧ (¬ tq_ai z 52 (Int32.toNatClampNeg (nI o)) = 0 → Q (.inl (some (.int (nI o)))) z))
          rw [i_cl (by omega), hj.2 o o64, bi_0]
          refine ⟨i_in o64 (by omega), fun h3 => k0 (fun x' y' o' u => ?_), fun h3 => k1 x y o ⟨rfl, rfl, hx, hy, sa, by rw [← ek]; exact eo, by cases q : S o; exact absurd q h3; rfl⟩⟩
          obtain ⟨q1, q2⟩ := uq u
          subst q1
          subst q2
          obtain ⟨-, -, -, -, -, q3, q4⟩ := u
          rw [← ek, eo] at q3
          cases q3
          rw [h3] at q4; cases q4
    rw [i_8, pk_mul, i_add]
    exact ⟨fun h2 => go 2 (by omega) (by rw [if_pos h2]), fun h2 => go 0 (by omega) (by rw [if_neg h2])⟩
  · rw [bi_0] at h1
    refine k0 (fun x y o u => ?_)
    obtain ⟨q1, q2, hx, hy, sa, -⟩ := u
    rw [q1, q2, ho_n (by omega) (by omega), decide_eq_true hx, decide_eq_true hy, sa] at h1
    cases h1
theorem cv_rm_cm {S : Nat → Bool} {a b : Nat} : cv_rm S a b = cv_rm S b a := by
  funext j
  unfold cv_rm
  cases S j <;> cases decide (j = a) <;> cases decide (j = b) <;> rfl
theorem hvt_get {X Y D : Int32} {x y o : Nat} (hd : jd w h r S) (hv : hvt w h r S z) (hp : pcn w h r S X Y D x y o) : tq_al z 7 (2 * (8 * y + x) + (if D = 0 then 1 else 0)) = lN (cv_T w r 0 (cv_rm S (8 * y + x) o)) := by
  obtain ⟨-, -, hx, hy, sa, q3, q4⟩ := hp
  have hw8 := hd.2.1
  have cd : (8 * y + x) / 8 = y := by omega
  have cm : (8 * y + x) % 8 = x := by omega
  by_cases h2 : D = 0
  · rw [if_pos h2] at q3 ⊢
    unfold bs at q3
    rw [if_neg (by omega), if_neg (by omega), if_pos rfl, cd] at q3
    split at q3
    · cases q3
      have e8 : 8 * y + x + 8 = ot w x y 2 := by show _ = 8 * (y + 1) + x; omega
      rw [e8] at q4 ⊢
      exact hv x y 2 hx hy (Or.inr (Or.inl rfl)) sa q4
    · cases q3
  · rw [if_neg h2] at q3 ⊢
    unfold bs at q3
    rw [if_pos rfl, cm] at q3
    split at q3
    · rename_i q5
      cases q3
      have e8 : 8 * y + x + 1 = ot w x y 1 := by show _ = 8 * y + (x + 1); omega
      rw [e8] at q4 ⊢
      exact hv x y 1 hx hy (Or.inl ⟨rfl, q5⟩) sa q4
    · rename_i q5
      split at q3
      · rename_i q6
        cases q3
        have e8 : 8 * y + x = ot w 0 y 3 := by show _ = 8 * y + (w - 1); omega
        have e9 : 8 * y + x - (w - 1) = 8 * y + 0 := by omega
        have e10 : 2 * (8 * y + x) + 0 = hdx w 0 y 3 := by show _ = 2 * (8 * y + (w - 1)); omega
        rw [e10, e9, cv_rm_cm, e8]
        rw [e9] at q4
        rw [e8] at sa
        exact hv 0 y 3 (by omega) hy (Or.inr (Or.inr ⟨rfl, rfl, q6⟩)) q4 sa
      · cases q3
theorem pc_big {r : Bool} {S' : Nat → Bool} (hd : jd w h r S) (hS : ∀ j, S' j = true → S j = true) : cv_T w r 0 S' < 9223372036854775808 := by
  have := cv_big (w := w) (r := r) (i := 0) (S := S') (fun q => by have := jd_r hd q; omega) (fun j hj => jd_in hd j (hS j hj))
  omega
theorem sq_withPiece {X Y D : Int32} {x y o : Nat} (hd : jd w h r S) (hv : hvt w h r S z) (hp : pcn w h r S X Y D x y o) (k : Q (.inl (some (.long (lN (cv_T w r 0 (cv_rm S (8 * y + x) o)))))) z) : wm_X5_withPiece X Y D z Q := by
  have hg := hvt_get hd hv hp
  obtain ⟨rfl, rfl, hx, hy, sa, q3, q4⟩ := hp
  have hw8 := hd.2.1
  have hh8 := hd.2.2.2.1
  unfold wm_X5_withPiece
  rw [i_8, pk_mul, i_add, i_2, pk_mul, i_1, i_add, i_cl (by omega)]
  refine ⟨fun h2 => ⟨i_in (by omega) (by omega), ?_⟩, fun h2 => ?_⟩
  · rw [if_pos h2] at hg
    rw [hg]; exact k
  · rw [i_0, i_add, i_cl (by omega)]
    rw [if_neg h2] at hg
    rw [hg]
    exact ⟨i_in (by omega) (by omega), k⟩
theorem sc_having {X Y D : Int32} (hd : jd w h r S) (hj : jc w h r S z) (hc : tq_fi z 134 = tq_fi z 68 → fro w h r S z) (hh : tq_fi z 135 = tq_fi z 68 → hvt w h r S z) (k0 : (∀ x y o, ¬ pcn w h r S X Y D x y o) → Q (.inr 3) z) (k1 : ∀ x y o, pcn w h r S X Y D x y o → ∀ z1 z', fr FH z z1 → fr FT z1 z' → hvt w h r S z1 → tq_fi z1 135 = tq_fi z1 68 → (tq_fi z1 134 = tq_fi z1 68 → fro w h r S z1) → ctx z' (tn false (cv_T w r 0 (cv_rm S (8 * y + x) o))) → Q (.inl (some (.int (nI (tn false (cv_T w r 0 (cv_rm S (8 * y + x) o))).length)))) z') : wm_X11_having X Y D z Q := by
  unfold wm_X11_having
  refine sq_isPiece hd hj (fun u => ⟨_, rfl, fun h1 => absurd rfl h1, fun _ => k0 u⟩) (fun x y o hp => ⟨_, rfl, fun _ => ?_, fun h1 => absurd h1 (by decide +kernel)⟩)
  refine sq_fillHaving hd hj hc hh (fun z1 f1 v1 c1 g1 => ⟨rfl, ?_⟩)
  refine sq_withPiece hd v1 hp ⟨_, rfl, ?_⟩
  exact sq_say (neg := false) (pc_big hd (fun j hj => (cv_rm_t.mp hj).1)) (fun q => (by cases q)) (fun z2 f2 t2 => ⟨_, rfl, k1 x y o hp z1 z2 f1 f2 v1 c1 g1 t2⟩)
theorem sq_countWith {a b : Nat} (hd : jd w h r S) (hj : jr w h r S z) (ha : a < 64) (hb : b < 64) (k : ∀ z', fr FN z z' → Q (.inl (some (.long (lN (cv_T w r 0 (cv_rm S a b)))))) z') : wm_X12_countWith (nI a) (nI b) z Q := by
  unfold wm_X12_countWith
  refine sq_all hj (fun z1 f1 e1 => ⟨rfl, ?_⟩)
  rw [i_cl (by omega), i_cl (by omega)]
  refine ⟨i_in ha (by omega), fun z2 e2 => ⟨i_in hb (by omega), fun z3 e3 => ?_⟩⟩
  have f3 : fr [(2, 53)] z z3 := by
    rw [e3]; refine fr_sai (by decide) ?_
    rw [e2]; exact fr_sai (by decide) f1
  have e53 : ∀ j, j < 64 → tq_ai z3 53 j = bi (cv_rm S a b j) := by
    intro j hj64
    rw [e3, rw_aie, rw_upd, e2, rw_aie, rw_upd]
    unfold cv_rm
    by_cases q1 : j = b
    · rw [if_pos q1, decide_eq_true q1]; simp; rfl
    · rw [if_neg q1, decide_eq_false q1]
      by_cases q2 : j = a
      · rw [if_pos q2, decide_eq_true q2]; simp; rfl
      · rw [if_neg q2, decide_eq_false q2, e1 j hj64]; simp
  have x1 := ix_b (S := cv_rm S a b) (fun j hj => jd_in hd j (cv_rm_t.mp hj).1) e53
  have b1 := cr_bf f3 (by decide) (by decide) (by decide) hj.1
  refine sp_count hd.1 hd.2.1 hd.2.2.2.1 (by rw [x1]; exact cv_re_rm hd.2.2.2.2.2) b1 (fun z4 f4 => ⟨_, rfl, ?_⟩)
  rw [x1]
  exact k z4 (fr_t (fr_m (by decide) f3) (fr_m (by decide) f4))
theorem sr_having {X Y D : Int32} (hd : jd w h r S) (hj : jr w h r S z) (k0 : (∀ x y o, ¬ pcn w h r S X Y D x y o) → ∀ z', fr [(0, 3264)] z z' → tq_fi z' 3264 = 1 → Q (.inl (some (.int 0))) z') (k1 : ∀ x y o, pcn w h r S X Y D x y o → ∀ z', fr ([(0, 3264), (0, 3279), (2, 60)] ++ FN) z z' → tq_fi z' 3264 = 0 → rt z' (tn false (cv_T w r 0 (cv_rm S (8 * y + x) o))) → Q (.inl (some (.int (nI (tn false (cv_T w r 0 (cv_rm S (8 * y + x) o))).length)))) z') : wm_X12_having X Y D z Q := by
  have hw8 := hd.2.1
  have hh8 := hd.2.2.2.1
  unfold wm_X12_having
  refine sq_pieceOther (D := D) hd hj (fun u => ⟨_, rfl, fun h1 => absurd rfl h1, fun _ => ?_⟩) (fun x y o hp => ⟨_, rfl, fun _ => ?_, fun h1 => ?_⟩)
  · unfold wc_X12_having_21
    exact sq_isThrown (b := true) (a := 1) (fun z1 f1 e1 => ⟨_, rfl, fun h3 => (by cases h3), fun _ => k0 u z1 f1 e1⟩)
  · have o64 := jd_in hd _ hp.2.2.2.2.2.2
    have hp' := hp
    obtain ⟨rfl, rfl, hx, hy, sa, -⟩ := hp'
    unfold wc_X12_having_21
    refine sq_isThrown (b := false) (a := 1) (fun z1 f1 e1 => ⟨_, rfl, fun _ => ?_, fun h3 => absurd rfl h3⟩)
    have j1 := jr_f f1 (by decide) (by decide) (by decide) (by decide) hj
    show wm_X12_countWith ((8 : Int32) * nI y + nI x) (nI o) z1 _
    rw [i_8, pk_mul, i_add]
    refine sq_countWith hd j1 (by omega) o64 (fun z2 f2 => ⟨_, rfl, ?_⟩)
    refine sq_rput (neg := false) (pc_big hd (fun j hj => (cv_rm_t.mp hj).1)) (fun q => (by cases q)) (fun z3 f3 t3 => ⟨_, rfl, ?_⟩)
    exact k1 x y o hp z3 (fr_t (fr_m (by decide) f1) (fr_t (fr_m (by decide) f2) (fr_m (by decide) f3))) ((fr_fi f3 (by decide)).trans ((fr_fi f2 (by decide)).trans e1)) t3
  · have o64 := jd_in hd _ hp.2.2.2.2.2.2
    have e2 : nI o = (-1 : Int32) := h1
    rw [nu_eq, i_ti (by omega)] at e2
    have : (-1 : Int32).toInt = -1 := by decide +kernel
    omega
end HVT
