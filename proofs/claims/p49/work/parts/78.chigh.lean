section CHIGH
variable {w h : Nat} {S : Nat → Bool} {p : Nat → Nat} {H : Nat → Int} {z : tq_S} {Q : tq_O → tq_S → Prop}
theorem ho_bx {X Y : Int32} {x y : Nat} (hd : jd w h false S) (hX : X.toInt = (x : Int) - 1) (hY : Y.toInt = (y : Int) - 1) : ho w h S X Y = bx S x y := by
  obtain ⟨hw1, hw8, hh1, hh8, -, hre⟩ := hd
  unfold ho bx
  rw [hX, hY]
  by_cases q : 1 ≤ x ∧ x ≤ 8 ∧ 1 ≤ y ∧ y ≤ 8
  · have e1 : ((x : Int) - 1).toNat = x - 1 := by omega
    have e2 : ((y : Int) - 1).toNat = y - 1 := by omega
    rw [e1, e2]
    cases hs : S (8 * (y - 1) + (x - 1))
    · simp
    · have := hre _ hs
      have b1 : (8 * (y - 1) + (x - 1)) % 8 = x - 1 := by omega
      have b2 : (8 * (y - 1) + (x - 1)) / 8 = y - 1 := by omega
      rw [b1, b2] at this
      rw [decide_eq_true (by omega : (0 : Int) ≤ (x : Int) - 1), decide_eq_true (by omega : (x : Int) - 1 < (w : Int)), decide_eq_true (by omega : (0 : Int) ≤ (y : Int) - 1), decide_eq_true (by omega : (y : Int) - 1 < (h : Int)), decide_eq_true (by omega : 1 ≤ x), decide_eq_true (by omega : x ≤ 8), decide_eq_true (by omega : 1 ≤ y), decide_eq_true (by omega : y ≤ 8)]; rfl
  · have l : ((decide (1 ≤ x) && decide (x ≤ 8)) && (decide (1 ≤ y) && decide (y ≤ 8))) = false := by
      cases e : ((decide (1 ≤ x) && decide (x ≤ 8)) && (decide (1 ≤ y) && decide (y ≤ 8)))
      · rfl
      · simp only [Bool.and_eq_true, decide_eq_true_eq] at e
        exact absurd ⟨e.1.1, e.1.2, e.2.1, e.2.2⟩ q
    rw [l, Bool.false_and]
    have r : (decide (0 ≤ (x : Int) - 1) && decide ((x : Int) - 1 < (w : Int)) && decide (0 ≤ (y : Int) - 1) && decide ((y : Int) - 1 < (h : Int))) = false := by
      cases e : (decide (0 ≤ (x : Int) - 1) && decide ((x : Int) - 1 < (w : Int)) && decide (0 ≤ (y : Int) - 1) && decide ((y : Int) - 1 < (h : Int)))
      · rfl
      · simp only [Bool.and_eq_true, decide_eq_true_eq] at e
        exact absurd (by omega) q
    rw [r, Bool.false_and]
theorem sq_rise {d c : Bool} (k : ∀ v : Int32, v.toInt = vl d c → Q (.inl (some (.int v))) z) : wm_X7_rise (bi d) (bi c) z Q := by
  unfold wm_X7_rise wc_X7_rise_10
  rw [bi_0, bi_0]
  refine ⟨fun q1 => ⟨fun q2 => k _ ?_, fun q2 => k _ ?_⟩, fun q1 => ⟨fun q2 => k _ ?_, fun q2 => k _ ?_⟩⟩
  · rw [q1, q2]; decide +kernel
  · have q2 : d = true := by simpa using q2
    rw [q1, q2]; decide +kernel
  · have q1 : c = true := by simpa using q1
    rw [q1, q2]; decide +kernel
  · have q1 : c = true := by simpa using q1
    have q2 : d = true := by simpa using q2
    rw [q1, q2]; decide +kernel
theorem i_par {x : Int32} {n : Int} (hx : x.toInt = n) (h1 : -1000 ≤ n) (h2 : n ≤ 1000) : ((x - x / (2 : Int32) * (2 : Int32)) = 0) ↔ n % 2 = 0 := by
  have t2 : (2 : Int32).toInt = 2 := rfl
  have d : (x / (2 : Int32)).toInt = n.tdiv 2 := by
    rw [Int32.toInt_div, t2, hx]
    refine Int.bmod_eq_of_le ?_ ?_
    · have := Int.mul_tdiv_add_tmod n 2
      have := Int.tmod_lt_of_pos n (b := 2) (by omega)
      have := Int.lt_tmod_of_pos n (b := 2) (by omega)
      omega
    · have := Int.mul_tdiv_add_tmod n 2
      have := Int.tmod_lt_of_pos n (b := 2) (by omega)
      have := Int.lt_tmod_of_pos n (b := 2) (by omega)
      omega
  have e1 := Int.mul_tdiv_add_tmod n 2
  have e2 := Int.tmod_lt_of_pos n (b := 2) (by omega)
  have e3 := Int.lt_tmod_of_pos n (b := 2) (by omega)
  have m : (x / (2 : Int32) * (2 : Int32)).toInt = n.tdiv 2 * 2 := by
    rw [nu_mul (by rw [d, t2]; omega) (by rw [d, t2]; omega), d, t2]
  rw [nu_eq, nu_sub (by rw [m, hx]; omega) (by rw [m, hx]; omega), m, hx, i_z]
  omega
theorem i_t1 : (1 : Int32).toInt = 1 := rfl
/-- the pieces that the heights are told of -/
def cvh (w : Nat) (S : Nat → Bool) (p : Nat → Nat) (z : tq_S) : Prop := cvo w false S p (tq_fl z 772) (tq_fl z 773)
theorem sq_riseRight {X : Int32} {x y : Nat} (hd : jd w h false S) (hj : jc w h false S z) (hc : cvh w S p z) (hX : X.toInt = (x : Int) - 1) (hx : x ≤ 9) (hy : y ≤ 8) (k : ∀ v : Int32, v.toInt = (if (bx S x y || bx S x (y + 1)) = true then ho0 S p x y else 0) → Q (.inl (some (.int v))) z) : wm_X7_riseRight X (nI y) z Q := by
  have hw8 := hd.2.1
  have hh8 := hd.2.2.2.1
  have ty : (nI y).toInt = (y : Int) := i_ti (by omega)
  have ty1 : (nI y - (1 : Int32)).toInt = (y : Int) - 1 := by rw [nu_sub (by rw [ty, i_t1]; omega) (by rw [ty, i_t1]; omega), ty, i_t1]
  have hoa : ho w h S X (nI y - (1 : Int32)) = bx S x y := ho_bx hd hX ty1
  have hob : ho w h S X (nI y) = bx S x (y + 1) := ho_bx hd hX (by rw [ty]; omega)
  have fin : ∀ cr, cr = (bx S x y && Dp p (8 * (y - 1) + (x - 1))) → (bx S x y || bx S x (y + 1)) = true → wc_X7_riseRight_56 Q X (nI y) (bi cr) z := by
    intro cr hcr hs
    rw [if_pos hs] at k
    unfold wc_X7_riseRight_56
    have t1 : (X + nI y - (1 : Int32)).toInt = (x : Int) - 1 + y - 1 := by
      have t0 : (X + nI y).toInt = (x : Int) - 1 + y := by rw [nu_add (by rw [hX, ty]; omega) (by rw [hX, ty]; omega), hX, ty]
      rw [nu_sub (by rw [t0, i_t1]; omega) (by rw [t0, i_t1]; omega), t0, i_t1]
    rw [i_par t1 (by omega) (by omega)]
    unfold wc_X7_riseRight_74
    refine ⟨fun q => ?_, fun q => ?_⟩
    · refine sq_rise (d := false) (c := cr) (fun v ev => ⟨_, rfl, k v ?_⟩)
      rw [ev]
      unfold ho0
      rw [← hcr, decide_eq_false (by omega)]
    · refine sq_rise (d := true) (c := cr) (fun v ev => ⟨_, rfl, k v ?_⟩)
      rw [ev]
      unfold ho0
      rw [← hcr, decide_eq_true (by omega)]
  unfold wm_X7_riseRight
  refine sq_holds hw8 hh8 hj ⟨_, rfl, fun q1 => ?_, fun q1 => ?_⟩
  · rw [bi_n, hoa] at q1
    have b := bx_rect hd.2.2.2.2.2 q1
    have eX : X = nI (x - 1) := by rw [nu_eq, hX, i_ti (by omega)]; omega
    have eY : nI y - (1 : Int32) = nI (y - 1) := by rw [i_1, pk_sub (by omega)]
    unfold wc_X7_riseRight_30
    rw [bi_0, hoa, q1, eX, eY]
    refine ⟨fun q => (by cases q), fun _ => sq_bit ⟨_, rfl, ?_⟩⟩
    dsimp only
    rw [ct_tb (by omega), hc.2.2, b.2.2.2.2.2.2, Bool.true_and, ← eX]
    unfold wc_X7_riseRight_55
    refine ⟨fun q => ?_, fun q => ?_⟩
    · exact fin false (by rw [q1, q]; rfl) (by rw [q1]; rfl)
    · have q : Dp p (8 * (y - 1) + (x - 1)) = true := by simpa using q
      exact fin true (by rw [q1, q]; rfl) (by rw [q1]; rfl)
  · rw [bi_0, hoa] at q1
    refine sq_holds hw8 hh8 hj ⟨_, rfl, fun q2 => ?_, fun q2 => ?_⟩
    · rw [bi_n, hob] at q2
      unfold wc_X7_riseRight_30 wc_X7_riseRight_55
      rw [bi_0, hoa]
      refine ⟨fun _ => fin false (by rw [q1]; rfl) (by rw [q1, q2]; rfl), fun q => absurd q1 q⟩
    · rw [bi_0, hob] at q2
      rw [q1, q2, if_neg (by decide)] at k
      exact k _ rfl
theorem sq_riseDown {Y : Int32} {x y : Nat} (hd : jd w h false S) (hj : jc w h false S z) (hc : cvh w S p z) (hY : Y.toInt = (y : Int) - 1) (hy : y ≤ 9) (hx : x ≤ 8) (k : ∀ v : Int32, v.toInt = (if (bx S x y || bx S (x + 1) y) = true then ve0 w S p x y else 0) → Q (.inl (some (.int v))) z) : wm_X7_riseDown (nI x) Y z Q := by
  have hw8 := hd.2.1
  have hh8 := hd.2.2.2.1
  have tx : (nI x).toInt = (x : Int) := i_ti (by omega)
  have tx1 : (nI x - (1 : Int32)).toInt = (x : Int) - 1 := by rw [nu_sub (by rw [tx, i_t1]; omega) (by rw [tx, i_t1]; omega), tx, i_t1]
  have hoa : ho w h S (nI x - (1 : Int32)) Y = bx S x y := ho_bx hd tx1 hY
  have hob : ho w h S (nI x) Y = bx S (x + 1) y := ho_bx hd (by rw [tx]; omega) hY
  have fin : ∀ cr, cr = (bx S x y && Rp w false p (8 * (y - 1) + (x - 1))) → (bx S x y || bx S (x + 1) y) = true → wc_X7_riseDown_56 Q (nI x) Y (bi cr) z := by
    intro cr hcr hs
    rw [if_pos hs] at k
    unfold wc_X7_riseDown_56
    have t1 : (nI x + Y).toInt = (x : Int) + (y - 1) := by rw [nu_add (by rw [tx, hY]; omega) (by rw [tx, hY]; omega), tx, hY]
    rw [i_par t1 (by omega) (by omega)]
    unfold wc_X7_riseDown_72
    refine ⟨fun q => ?_, fun q => ?_⟩
    · refine sq_rise (d := false) (c := cr) (fun v ev => ⟨_, rfl, k v ?_⟩)
      rw [ev]
      unfold ve0
      rw [← hcr, decide_eq_false (by omega)]
    · refine sq_rise (d := true) (c := cr) (fun v ev => ⟨_, rfl, k v ?_⟩)
      rw [ev]
      unfold ve0
      rw [← hcr, decide_eq_true (by omega)]
  unfold wm_X7_riseDown
  refine sq_holds hw8 hh8 hj ⟨_, rfl, fun q1 => ?_, fun q1 => ?_⟩
  · rw [bi_n, hoa] at q1
    have b := bx_rect hd.2.2.2.2.2 q1
    have eY : Y = nI (y - 1) := by rw [nu_eq, hY, i_ti (by omega)]; omega
    have eX : nI x - (1 : Int32) = nI (x - 1) := by rw [i_1, pk_sub (by omega)]
    unfold wc_X7_riseDown_30
    rw [bi_0, hoa, q1, eX, eY]
    refine ⟨fun q => (by cases q), fun _ => sq_bit ⟨_, rfl, ?_⟩⟩
    dsimp only
    rw [ct_tb (by omega), hc.2.1, b.2.2.2.2.2.2, Bool.true_and, ← eY]
    unfold wc_X7_riseDown_55
    refine ⟨fun q => ?_, fun q => ?_⟩
    · exact fin false (by rw [q1, q]; rfl) (by rw [q1]; rfl)
    · have q : Rp w false p (8 * (y - 1) + (x - 1)) = true := by simpa using q
      exact fin true (by rw [q1, q]; rfl) (by rw [q1]; rfl)
  · rw [bi_0, hoa] at q1
    refine sq_holds hw8 hh8 hj ⟨_, rfl, fun q2 => ?_, fun q2 => ?_⟩
    · rw [bi_n, hob] at q2
      unfold wc_X7_riseDown_30 wc_X7_riseDown_55
      rw [bi_0, hoa]
      refine ⟨fun _ => fin false (by rw [q1]; rfl) (by rw [q1, q2]; rfl), fun q => absurd q1 q⟩
    · rw [bi_0, hob] at q2
      rw [q1, q2, if_neg (by decide)] at k
      exact k _ rfl
theorem cnr_xy {x y : Nat} (hx : x ≤ 8) (hy : y ≤ 8) : cnr S (9 * y + x) = (bx S x y || bx S (x + 1) y || bx S x (y + 1) || bx S (x + 1) (y + 1)) := by
  unfold cnr
  have e1 : (9 * y + x) % 9 = x := by omega
  have e2 : (9 * y + x) / 9 = y := by omega
  rw [e1, e2, decide_eq_true (by omega), Bool.true_and]
theorem sq_cCorner {x y : Nat} (hd : jd w h false S) (hj : jc w h false S z) (hx : x ≤ w) (hy : y ≤ h) (k : Q (.inl (some (.int (bi (cnr S (9 * y + x)))))) z) : wm_X7_isCorner (nI x) (nI y) z Q := by
  have hw8 := hd.2.1
  have hh8 := hd.2.2.2.1
  rw [cnr_xy (by omega) (by omega)] at k
  have tx : (nI x).toInt = (x : Int) := i_ti (by omega)
  have ty : (nI y).toInt = (y : Int) := i_ti (by omega)
  have tx1 : (nI x - (1 : Int32)).toInt = (x : Int) - 1 := by rw [nu_sub (by rw [tx, i_t1]; omega) (by rw [tx, i_t1]; omega), tx, i_t1]
  have ty1 : (nI y - (1 : Int32)).toInt = (y : Int) - 1 := by rw [nu_sub (by rw [ty, i_t1]; omega) (by rw [ty, i_t1]; omega), ty, i_t1]
  have h11 : ho w h S (nI x) (nI y) = bx S (x + 1) (y + 1) := ho_bx hd (by rw [tx]; omega) (by rw [ty]; omega)
  have h01 : ho w h S (nI x - 1) (nI y) = bx S x (y + 1) := ho_bx hd tx1 (by rw [ty]; omega)
  have h10 : ho w h S (nI x) (nI y - 1) = bx S (x + 1) y := ho_bx hd (by rw [tx]; omega) ty1
  have h00 : ho w h S (nI x - 1) (nI y - 1) = bx S x y := ho_bx hd tx1 ty1
  unfold wm_X7_isCorner
  rw [hj.1, hj.2.1, i_lt (by omega) (by omega), i_le (by omega) (by omega)]
  refine ⟨fun q => absurd q (i_n0 (by omega)), fun _ => ⟨fun q => by omega, fun _ => ⟨fun q => absurd q (i_n0 (by omega)), fun _ => ⟨fun _ => ?_, fun q => by omega⟩⟩⟩⟩
  refine sq_holds hw8 hh8 hj ⟨_, rfl, fun q1 => ?_, fun q1 => ?_⟩
  · rw [bi_n, h11] at q1
    rw [q1, Bool.or_true] at k; exact k
  rw [bi_0, h11] at q1
  refine sq_holds hw8 hh8 hj ⟨_, rfl, fun q2 => ?_, fun q2 => ?_⟩
  · rw [bi_n, h01] at q2
    rw [q2, Bool.or_true, Bool.true_or] at k; exact k
  rw [bi_0, h01] at q2
  refine sq_holds hw8 hh8 hj ⟨_, rfl, fun q3 => ?_, fun q3 => ?_⟩
  · rw [bi_n, h10] at q3
    rw [q3, Bool.or_true, Bool.true_or, Bool.true_or] at k; exact k
  rw [bi_0, h10] at q3
  refine sq_holds hw8 hh8 hj ⟨_, rfl, fun q4 => ?_, fun q4 => ?_⟩
  · rw [bi_0, h00] at q4
    rw [q1, q2, q3, q4] at k; exact k
  · rw [bi_n, h00] at q4
    rw [q1, q2, q3, q4] at k; exact k
theorem vl_0 {a b : Bool} : vl a b ≠ 0 := by cases a <;> cases b <;> decide
theorem icr_0 {v k : Nat} : icr w S p v k ≠ 0 := by
  unfold icr ho0 ve0
  split
  · exact vl_0
  · split
    · have := vl_0 (a := decide ((v % 9 + v / 9) % 2 = 0)) (b := bx S (v % 9) (v / 9) && Dp p (8 * (v / 9 - 1) + (v % 9 - 1))); omega
    · split
      · exact vl_0
      · have := vl_0 (a := decide ((v % 9 + v / 9) % 2 = 1)) (b := bx S (v % 9) (v / 9) && Rp w false p (8 * (v / 9 - 1) + (v % 9 - 1))); omega
theorem sq_reachN {s0 : Nat → Bool} {A0 : Nat → Int32} {s n i k : Nat} {g : Nat → Nat} {U : Nat → Bool} {X st : Int32} (hp : pot w S p H) (hb0 : ∀ v, s0 v = true → -300 ≤ (A0 v).toInt ∧ (A0 v).toInt ≤ 300) (hh : hb S H s0 A0 (-9999) s n g U (tq_ai z 13) (tq_ai z 15)) (hi : i < n) (hk : k < 4) (hst : sdc S (g i) k = true → nI (g i) + st = nI (toc (g i) k)) (hX : X.toInt = if sdc S (g i) k = true then icr w S p (g i) k else 0) (kk : ∀ z' n' g' U', fr [(2, 13), (2, 15)] z z' → hb S H s0 A0 (-9999) s n' g' U' (tq_ai z' 13) (tq_ai z' 15) → n ≤ n' → (∀ j, j < n → g' j = g j) → (∀ v, U v = true → U' v = true) → (sdc S (g i) k = true → U' (toc (g i) k) = true) → Q (.inl (some (.int (nI n')))) z') : wm_X7_reach_r1 (nI (g i)) st X (nI n) z Q := by
  have b := hh.2.2.1 i hi
  have v81 := cnr_81 b.2.1
  have n81 := hb_81 hh
  have stay : (sdc S (g i) k = true → U (toc (g i) k) = true) → Q (.inl (some (.int (nI n)))) z := fun e => kk z n g U fr_r hh (Nat.le_refl _) (fun _ _ => rfl) (fun _ h => h) e
  unfold wm_X7_reach_r1
  intro v1 e1
  by_cases hs : sdc S (g i) k = true
  · have t81 := (sd_to v81 hk hs).1
    rw [hst hs] at e1
    rw [if_pos hs] at hX
    have ne : ¬ X = 0 := fun e => by rw [e, i_z] at hX; exact icr_0 hX.symm
    rw [e1]
    refine ⟨fun e => absurd e ne, fun _ => ⟨fun e => absurd e (i_n0 (by omega)), fun _ => ?_⟩⟩
    rw [i_81, i_le (by omega) (by omega), i_cl (by omega), i_lt (by omega) (by omega), i_cl (by omega)]
    refine ⟨fun e => by omega, fun _ => ⟨i_in (by omega) (by omega), fun e => ?_, fun e => ?_⟩⟩
    · refine stay (fun _ => ?_)
      cases hU : U (toc (g i) k)
      · exact absurd (hh.1 _ t81 hU) e
      · rfl
    · have hU : U (toc (g i) k) = false := by
        cases hU : U (toc (g i) k)
        · rfl
        · exfalso
          have e2 := congrArg Int32.toInt e
          have e3 : (-9999 : Int32).toInt = -9999 := by decide +kernel
          rw [e3] at e2
          rcases hh.2.2.2.1 _ hU with q | ⟨j, hj, hg⟩
          · have := hb0 _ q
            rw [(hh.2.1 _ q).2] at e2
            omega
          · have := hh.2.2.1 j hj
            rw [hg] at this
            omega
      have hh2 := hb_1 hp hh hi hk hs hU hX
      refine ⟨fun _ => ⟨i_in (by omega) (by omega), i_in (by omega) (by omega), fun z2 e2 => ⟨i_in hh2.1 (by omega), fun z3 e3 => ?_⟩⟩, fun e => absurd hh2.1 e⟩
      rw [i_cl (by omega)] at e3
      have a1 : tq_ai z3 13 = upd (tq_ai z 13) (toc (g i) k) (tq_ai z 13 (g i) + X) := by rw [e3, rw_ain (by omega), e2, rw_aie]
      have a2 : tq_ai z3 15 = upd (tq_ai z 15) n (nI (toc (g i) k)) := by rw [e3, rw_aie, e2, rw_ain (by omega)]
      rw [i_1, i_add]
      refine kk z3 (n + 1) _ _ (by rw [e3]; refine fr_sai (by decide) ?_; rw [e2]; exact fr_sai (by decide) fr_r) (by rw [a1, a2]; exact hh2.2) (by omega) (fun j hj => ?_) (fun v hv => un_o hv) (fun _ => un_e)
      show (if j = n then toc (g i) k else g j) = g j
      rw [if_neg (by omega)]
  · rw [if_neg hs] at hX
    have e0 : X = 0 := by rw [nu_eq, hX, i_z]
    exact ⟨fun _ => stay (fun e => absurd e hs), fun e => absurd e0 e⟩
theorem sq_spreadN {U0 : Nat → Bool} {s : Nat} (hd : jd w h false S) (hj : jc w h false S z) (hc : cvh w S p z) (hp : pot w S p H) (ho : hO S H (-9999) s U0 (tq_ai z 13)) (hs : cnr S s = true) (h0 : U0 s = false) (kk : ∀ z' U', fr [(2, 13), (2, 15)] z z' → hO S H (-9999) (s + 1) U' (tq_ai z' 13) → Q (.inl none) z') : wm_X7_spread_r1 (nI s) z Q := by
  have s81 := cnr_81 hs
  unfold wm_X7_spread_r1
  refine ⟨i_in (by omega) (by omega), fun z1 e1 z2 e2 => ?_⟩
  rw [i_cl (by omega)] at e1
  have c0 : Int32.toNatClampNeg 0 = 0 := rfl
  rw [c0] at e2
  have f2 : fr [(2, 13), (2, 15)] z z2 := by rw [e2]; refine fr_sai (by decide) ?_; rw [e1]; exact fr_sai (by decide) fr_r
  have hb2 : hb S H U0 (tq_ai z 13) (-9999) s 1 (fun _ => s) (un U0 s) (tq_ai z2 13) (tq_ai z2 15) := by
    have a1 : tq_ai z2 13 = upd (tq_ai z 13) s 0 := by rw [e2, rw_ain (by omega), e1, rw_aie]
    have a2 : tq_ai z2 15 = upd (tq_ai z 15) 0 (nI s) := by rw [e2, rw_aie, e1, rw_ain (by omega)]
    rw [a1, a2]
    exact hb_0 hs h0 ho.1
  have hb0 : ∀ v, U0 v = true → -300 ≤ (tq_ai z 13 v).toInt ∧ (tq_ai z 13 v).toInt ≤ 300 := fun v hv => (ho.2.2.2.2 v hv).2
  clear e1 e2
  unfold wc_X7_spread_r1_16
  refine lp_inv (fun i t => ∃ n g U z', t = (nI n, nI i, z') ∧ fr [(2, 13), (2, 15)] z z' ∧ hb S H U0 (tq_ai z 13) (-9999) s n g U (tq_ai z' 13) (tq_ai z' 15) ∧ i ≤ n ∧ 0 < n ∧ g 0 = s ∧ ∀ j, j < i → ∀ k, k < 4 → sdc S (g j) k = true → U (toc (g j) k) = true) 81 ?_ ⟨1, _, _, z2, rfl, f2, hb2, by omega, by omega, rfl, fun j hj => by omega⟩
  rintro i t hi ⟨n, g, U, z3, rfl, f3, hb3, hin, hn0, hg0, hdone⟩ B hB
  simp only
  have n81 := hb_81 hb3
  unfold wb_X7_spread_r1_16
  rw [i_le (by omega) (by omega), i_81, i_le (by omega) (by omega)]
  refine ⟨fun q => ?_, fun q => ⟨fun q2 => by omega, fun q2 => ?_⟩⟩
  · refine kk z3 U f3 (hO_b ho hs h0 hb3 hn0 hg0 (fun j hj k hk hsd => hdone j (by omega) k hk hsd))
  · have hin : i < n := by omega
    have hB := hB (by omega)
    have b := hb3.2.2.1 i hin
    have v81 := cnr_81 b.2.1
    obtain ⟨v, hv⟩ : ∃ v, v = g i := ⟨_, rfl⟩
    have j3 := jc_f f3 (by decide) (by decide) (by decide) (by decide) hj
    have hc3 : cvh w S p z3 := by unfold cvh; rw [fr_fl f3 (by decide), fr_fl f3 (by decide)]; exact hc
    rw [i_cl (by omega), b.1, i_9, pk_rem (by omega) (by omega) (by omega), pk_div (by omega) (by omega) (by omega)]
    refine ⟨i_in (by omega) (by omega), fun v1 e1 => ⟨i_in (by omega) (by omega), fun v2 e2 => ⟨i_in (by omega) (by omega), ?_⟩⟩⟩
    rw [e1, e2]
    have vx : g i % 9 ≤ 8 := by omega
    have vy : g i / 9 ≤ 8 := by omega
    have tx : (nI (g i % 9)).toInt = ((g i % 9 : Nat) : Int) := i_ti (by omega)
    have ty : (nI (g i / 9)).toInt = ((g i / 9 : Nat) : Int) := i_ti (by omega)
    -- to the right
    refine sq_riseRight (x := g i % 9 + 1) (y := g i / 9) hd j3 hc3 (by rw [tx]; omega) (by omega) (by omega) (fun x1 ex1 => ⟨_, rfl, ?_⟩)
    refine sq_reachN (k := 0) hp hb0 hb3 hin (by omega) (fun _ => by rw [i_1, i_add]; rfl) (by rw [ex1]; rfl) (fun z4 n4 g4 U4 f4 hb4 m4 s4 u4 d4 => ⟨_, rfl, ?_⟩)
    have f34 := fr_t f3 f4
    have j4 := jc_f f34 (by decide) (by decide) (by decide) (by decide) hj
    have hc4 : cvh w S p z4 := by unfold cvh; rw [fr_fl f34 (by decide), fr_fl f34 (by decide)]; exact hc
    have g4i := s4 i hin
    have b4 := hb4.2.2.1 i (by omega)
    dsimp only
    refine ⟨i_in (by omega) (by omega), ?_⟩
    -- downward
    refine sq_riseDown (x := g i % 9) (y := g i / 9 + 1) hd j4 hc4 (by rw [ty]; omega) (by omega) (by omega) (fun x2 ex2 => ⟨_, rfl, ?_⟩)
    dsimp only
    rw [b4.1]
    refine sq_reachN (k := 2) hp hb0 hb4 (by omega) (by omega) (fun _ => by rw [i_add]; rfl) (by rw [ex2, g4i]; rfl) (fun z5 n5 g5 U5 f5 hb5 m5 s5 u5 d5 => ⟨_, rfl, ?_⟩)
    have f35 := fr_t f34 f5
    have j5 := jc_f f35 (by decide) (by decide) (by decide) (by decide) hj
    have hc5 : cvh w S p z5 := by unfold cvh; rw [fr_fl f35 (by decide), fr_fl f35 (by decide)]; exact hc
    have g5i := (s5 i (by omega)).trans g4i
    have b5 := hb5.2.2.1 i (by omega)
    dsimp only
    refine ⟨i_in (by omega) (by omega), ?_⟩
    -- to the left
    have tx1 : (nI (g i % 9) - (1 : Int32)).toInt = ((g i % 9 : Nat) : Int) - 1 := by rw [nu_sub (by rw [tx, i_t1]; omega) (by rw [tx, i_t1]; omega), tx, i_t1]
    refine sq_riseRight (x := g i % 9) (y := g i / 9) hd j5 hc5 tx1 (by omega) (by omega) (fun x3 ex3 => ⟨_, rfl, ?_⟩)
    dsimp only
    rw [b5.1]
    have nx3 : (-x3).toInt = -x3.toInt := by
      refine fb_negI ?_
      rw [ex3]
      have := vl_b (a := decide ((g i % 9 + g i / 9) % 2 = 0)) (b := bx S (g i % 9) (g i / 9) && Dp p (8 * (g i / 9 - 1) + (g i % 9 - 1)))
      unfold ho0
      split <;> omega
    refine sq_reachN (k := 1) hp hb0 hb5 (by omega) (by omega) (fun hs' => ?_) ?_ (fun z6 n6 g6 U6 f6 hb6 m6 s6 u6 d6 => ⟨_, rfl, ?_⟩)
    · rw [g5i] at hs' ⊢
      rcases (sd_to v81 (by omega) hs').2 with ⟨u, -⟩ | ⟨-, u1, u2, u3, u4⟩ | ⟨u, -⟩ | ⟨u, -⟩
      · omega
      · rw [i_m1 (by omega), u1]
      · omega
      · omega
    · rw [nx3, ex3, g5i, sdc_1]
      have : icr w S p (g i) 1 = -ho0 S p (g i % 9) (g i / 9) := rfl
      rw [this]
      split <;> omega
    have f36 := fr_t f35 f6
    have j6 := jc_f f36 (by decide) (by decide) (by decide) (by decide) hj
    have hc6 : cvh w S p z6 := by unfold cvh; rw [fr_fl f36 (by decide), fr_fl f36 (by decide)]; exact hc
    have g6i := (s6 i (by omega)).trans g5i
    have b6 := hb6.2.2.1 i (by omega)
    dsimp only
    refine ⟨i_in (by omega) (by omega), ?_⟩
    -- upward
    have ty1 : (nI (g i / 9) - (1 : Int32)).toInt = ((g i / 9 : Nat) : Int) - 1 := by rw [nu_sub (by rw [ty, i_t1]; omega) (by rw [ty, i_t1]; omega), ty, i_t1]
    refine sq_riseDown (x := g i % 9) (y := g i / 9) hd j6 hc6 ty1 (by omega) (by omega) (fun x4 ex4 => ⟨_, rfl, ?_⟩)
    dsimp only
    rw [b6.1]
    have nx4 : (-x4).toInt = -x4.toInt := by
      refine fb_negI ?_
      rw [ex4]
      have := vl_b (a := decide ((g i % 9 + g i / 9) % 2 = 1)) (b := bx S (g i % 9) (g i / 9) && Rp w false p (8 * (g i / 9 - 1) + (g i % 9 - 1)))
      unfold ve0
      split <;> omega
    refine sq_reachN (k := 3) hp hb0 hb6 (by omega) (by omega) (fun hs' => ?_) ?_ (fun z7 n7 g7 U7 f7 hb7 m7 s7 u7 d7 => ⟨_, rfl, ?_⟩)
    · rw [g6i] at hs' ⊢
      rcases (sd_to v81 (by omega) hs').2 with ⟨u, -⟩ | ⟨u, -⟩ | ⟨u, -⟩ | ⟨-, u1, u2, u3, u4⟩
      · omega
      · omega
      · omega
      · have m9 : (-nI 9 : Int32).toInt = -9 := by decide +kernel
        have tg : (nI (g i)).toInt = ((g i : Nat) : Int) := i_ti (by omega)
        rw [nu_eq, nu_add (by rw [tg, m9]; omega) (by rw [tg, m9]; omega), tg, m9, u1, i_ti (by omega)]
        omega
    · rw [nx4, ex4, g6i, sdc_3]
      have : icr w S p (g i) 3 = -ve0 w S p (g i % 9) (g i / 9) := rfl
      rw [this]
      split <;> omega
    have g7i := (s7 i (by omega)).trans g6i
    intro v8 e8
    rw [i_1, i_add] at e8
    refine hB _ ⟨n7, g7, U7, z7, by rw [e8], fr_t f36 f7, hb7, by omega, by omega, ?_, fun j hj k hk hsd => ?_⟩
    · rw [s7 0 (by omega), s6 0 (by omega), s5 0 (by omega), s4 0 (by omega)]; exact hg0
    · by_cases e : j = i
      · rw [e] at hsd ⊢
        rw [g7i] at hsd ⊢
        have ek : k = 0 ∨ k = 1 ∨ k = 2 ∨ k = 3 := by omega
        rcases ek with rfl | rfl | rfl | rfl
        · exact u7 _ (u6 _ (u5 _ (d4 hsd)))
        · have := u7 _ (d6 (by rw [g5i]; exact hsd))
          rw [g5i] at this; exact this
        · have := u7 _ (u6 _ (d5 (by rw [g4i]; exact hsd)))
          rw [g4i] at this; exact this
        · have := d7 (by rw [g6i]; exact hsd)
          rw [g6i] at this; exact this
      · have ej : g7 j = g j := by rw [s7 j (by omega), s6 j (by omega), s5 j (by omega), s4 j (by omega)]
        rw [ej] at hsd ⊢
        exact u7 _ (u6 _ (u5 _ (u4 _ (hdone j (by omega) k hk hsd))))
theorem sq_fillRowN {R D : Int64} (hd : jd w h false S) (hj : jc w h false S z) (hc : cvo w false S p R D) (hp : pot w S p H) (kk : ∀ z', fr [(1, 772), (1, 773), (2, 13), (2, 15)] z z' → hts S H (-9999) (tq_ai z' 13) → Q (.inl none) z') : wm_X7_fillRow_r1 R D z Q := by
  have hd0 := hd
  obtain ⟨hw1, hw8, hh1, hh8, -, hre⟩ := hd
  unfold wm_X7_fillRow_r1
  intro z1 e1 z2 e2
  refine fw_J7_fill_53178_r1 ⟨rfl, ?_⟩
  obtain ⟨z3, e3⟩ : ∃ z3, z3 = fl_i z2 13 0 81 (-9999) := ⟨_, rfl⟩
  rw [← e3]
  have f3 : fr [(1, 772), (1, 773), (2, 13), (2, 15)] z z3 := by
    rw [e3]; unfold fl_i; refine fr_sai (by decide) ?_
    rw [e2]; refine fr_sfl (by decide) ?_; rw [e1]; exact fr_sfl (by decide) fr_r
  have c3 : cvh w S p z3 := by
    unfold cvh
    have a1 : tq_fl z3 772 = R := by rw [e3]; unfold fl_i; rw [rw_fl_ai, e2, rw_fl_fl, if_neg (by omega), e1, rw_fle]
    have a2 : tq_fl z3 773 = D := by rw [e3]; unfold fl_i; rw [rw_fl_ai, e2, rw_fle]
    rw [a1, a2]; exact hc
  have o3 : hO S H (-9999) 0 (fun _ => false) (tq_ai z3 13) := by
    refine ⟨fun v hv _ => ?_, fun v hv => (by cases hv), fun v _ hv => by omega, fun v k hv => (by cases hv), fun v hv => (by cases hv)⟩
    rw [e3]
    unfold fl_i
    rw [rw_aie, if_pos ⟨by omega, hv⟩]
  clear e1 e2 e3
  unfold wc_X7_fillRow_r1_21
  refine lp_inv (fun y t => ∃ U z', t = (nI y, z') ∧ fr [(1, 772), (1, 773), (2, 13), (2, 15)] z z' ∧ cvh w S p z' ∧ hO S H (-9999) (9 * y) U (tq_ai z' 13)) (h + 1) ?_ ⟨_, z3, rfl, f3, c3, o3⟩
  rintro y t hy ⟨U, z4, rfl, f4, c4, o4⟩ B hB
  simp only
  have j4 := jc_f f4 (by decide) (by decide) (by decide) (by decide) hj
  unfold wb_X7_fillRow_r1_21
  rw [j4.2.1, i_lt (by omega) (by omega)]
  refine ⟨fun q => kk z4 f4 (hO_e o4 (fun v hv => by have := cnr_in hre hv; omega)), fun q => ?_⟩
  have hB := hB (by omega)
  unfold wc_X7_fillRow_r1_36
  refine lp_inv (fun x t => ∃ U z', t = (nI x, z') ∧ fr [(1, 772), (1, 773), (2, 13), (2, 15)] z z' ∧ cvh w S p z' ∧ hO S H (-9999) (9 * y + x) U (tq_ai z' 13)) (w + 1) ?_ ⟨U, z4, rfl, f4, c4, o4⟩
  rintro x t hx ⟨U, z5, rfl, f5, c5, o5⟩ B2 hB2
  simp only
  have j5 := jc_f f5 (by decide) (by decide) (by decide) (by decide) hj
  unfold wb_X7_fillRow_r1_36
  rw [j5.1, i_lt (by omega) (by omega)]
  refine ⟨fun q2 => ?_, fun q2 => ?_⟩
  · unfold wc_X7_fillRow_r1_96
    intro v e
    rw [i_1, i_add] at e
    refine hB _ ⟨U, z5, by rw [e], f5, c5, hO_n o5 (fun u hu1 hu2 hc => ?_)⟩
    have := cnr_in hre hc
    omega
  · have hB2 := hB2 (by omega)
    have go : ∀ U' z6, fr [(1, 772), (1, 773), (2, 13), (2, 15)] z z6 → cvh w S p z6 → hO S H (-9999) (9 * y + x + 1) U' (tq_ai z6 13) → wc_X7_fillRow_r1_90 (fun b6 z => B (b6, z)) (fun b7 z => B2 (b7, z)) Q (nI y) (nI x) z6 := by
      intro U' z6 f6 c6 o6
      unfold wc_X7_fillRow_r1_90
      intro v e
      rw [i_1, i_add] at e
      exact hB2 _ ⟨U', z6, by rw [e], f6, c6, o6⟩
    refine sq_cCorner hd0 j5 (by omega) (by omega) ⟨_, rfl, fun q3 => ?_, fun q3 => ?_⟩
    · rw [bi_0] at q3
      refine go U z5 f5 c5 (hO_n o5 (fun u hu1 hu2 hc => ?_))
      have : u = 9 * y + x := by omega
      rw [this, q3] at hc; cases hc
    · rw [bi_n] at q3
      rw [i_9, pk_mul, i_add, i_cl (by omega)]
      have m9 : (-9999 : Int32).toInt = -9999 := by decide +kernel
      refine ⟨i_in (by omega) (by omega), fun q4 => ?_, fun q4 => ?_⟩
      · refine go U z5 f5 c5 (hO_n o5 (fun u hu1 hu2 hc => ?_))
        have : u = 9 * y + x := by omega
        rw [this]
        cases hU : U (9 * y + x)
        · exact absurd (o5.1 _ (by omega) hU) q4
        · rfl
      · have hU : U (9 * y + x) = false := by
          cases hU : U (9 * y + x)
          · rfl
          · have := (o5.2.2.2.2 _ hU).2
            rw [q4, m9] at this; omega
        refine sq_spreadN hd0 j5 c5 hp o5 q3 hU (fun z6 U6 f6 o6 => ⟨rfl, ?_⟩)
        refine go U6 z6 (fr_t f5 (fr_m (by decide) f6)) ?_ o6
        unfold cvh
        rw [fr_fl f6 (by decide), fr_fl f6 (by decide)]; exact c5
theorem sq_reachK {s0 : Nat → Bool} {A0 : Nat → Int32} {s n i k : Nat} {g : Nat → Nat} {U : Nat → Bool} {X st : Int32} (hp : pot w S p H) (hb0 : ∀ v, s0 v = true → -300 ≤ (A0 v).toInt ∧ (A0 v).toInt ≤ 300) (hh : hb S H s0 A0 (-9999) s n g U (tq_ai z 14) (tq_ai z 15)) (hi : i < n) (hk : k < 4) (hst : sdc S (g i) k = true → nI (g i) + st = nI (toc (g i) k)) (hX : X.toInt = if sdc S (g i) k = true then icr w S p (g i) k else 0) (kk : ∀ z' n' g' U', fr [(2, 14), (2, 15)] z z' → hb S H s0 A0 (-9999) s n' g' U' (tq_ai z' 14) (tq_ai z' 15) → n ≤ n' → (∀ j, j < n → g' j = g j) → (∀ v, U v = true → U' v = true) → (sdc S (g i) k = true → U' (toc (g i) k) = true) → Q (.inl (some (.int (nI n')))) z') : wm_X7_reach (nI (g i)) st X (nI n) z Q := by
  have b := hh.2.2.1 i hi
  have v81 := cnr_81 b.2.1
  have n81 := hb_81 hh
  have stay : (sdc S (g i) k = true → U (toc (g i) k) = true) → Q (.inl (some (.int (nI n)))) z := fun e => kk z n g U fr_r hh (Nat.le_refl _) (fun _ _ => rfl) (fun _ h => h) e
  unfold wm_X7_reach
  intro v1 e1
  by_cases hs : sdc S (g i) k = true
  · have t81 := (sd_to v81 hk hs).1
    rw [hst hs] at e1
    rw [if_pos hs] at hX
    have ne : ¬ X = 0 := fun e => by rw [e, i_z] at hX; exact icr_0 hX.symm
    rw [e1]
    refine ⟨fun e => absurd e ne, fun _ => ⟨fun e => absurd e (i_n0 (by omega)), fun _ => ?_⟩⟩
    rw [i_81, i_le (by omega) (by omega), i_cl (by omega), i_lt (by omega) (by omega), i_cl (by omega)]
    refine ⟨fun e => by omega, fun _ => ⟨i_in (by omega) (by omega), fun e => ?_, fun e => ?_⟩⟩
    · refine stay (fun _ => ?_)
      cases hU : U (toc (g i) k)
      · exact absurd (hh.1 _ t81 hU) e
      · rfl
    · have hU : U (toc (g i) k) = false := by
        cases hU : U (toc (g i) k)
        · rfl
        · exfalso
          have e2 := congrArg Int32.toInt e
          have e3 : (-9999 : Int32).toInt = -9999 := by decide +kernel
          rw [e3] at e2
          rcases hh.2.2.2.1 _ hU with q | ⟨j, hj, hg⟩
          · have := hb0 _ q
            rw [(hh.2.1 _ q).2] at e2
            omega
          · have := hh.2.2.1 j hj
            rw [hg] at this
            omega
      have hh2 := hb_1 hp hh hi hk hs hU hX
      refine ⟨fun _ => ⟨i_in (by omega) (by omega), i_in (by omega) (by omega), fun z2 e2 => ⟨i_in hh2.1 (by omega), fun z3 e3 => ?_⟩⟩, fun e => absurd hh2.1 e⟩
      rw [i_cl (by omega)] at e3
      have a1 : tq_ai z3 14 = upd (tq_ai z 14) (toc (g i) k) (tq_ai z 14 (g i) + X) := by rw [e3, rw_ain (by omega), e2, rw_aie]
      have a2 : tq_ai z3 15 = upd (tq_ai z 15) n (nI (toc (g i) k)) := by rw [e3, rw_aie, e2, rw_ain (by omega)]
      rw [i_1, i_add]
      refine kk z3 (n + 1) _ _ (by rw [e3]; refine fr_sai (by decide) ?_; rw [e2]; exact fr_sai (by decide) fr_r) (by rw [a1, a2]; exact hh2.2) (by omega) (fun j hj => ?_) (fun v hv => un_o hv) (fun _ => un_e)
      show (if j = n then toc (g i) k else g j) = g j
      rw [if_neg (by omega)]
  · rw [if_neg hs] at hX
    have e0 : X = 0 := by rw [nu_eq, hX, i_z]
    exact ⟨fun _ => stay (fun e => absurd e hs), fun e => absurd e0 e⟩
theorem sq_spreadK {U0 : Nat → Bool} {s : Nat} (hd : jd w h false S) (hj : jc w h false S z) (hc : cvh w S p z) (hp : pot w S p H) (ho : hO S H (-9999) s U0 (tq_ai z 14)) (hs : cnr S s = true) (h0 : U0 s = false) (kk : ∀ z' U', fr [(2, 14), (2, 15)] z z' → hO S H (-9999) (s + 1) U' (tq_ai z' 14) → Q (.inl none) z') : wm_X7_spread (nI s) z Q := by
  have s81 := cnr_81 hs
  unfold wm_X7_spread
  refine ⟨i_in (by omega) (by omega), fun z1 e1 z2 e2 => ?_⟩
  rw [i_cl (by omega)] at e1
  have c0 : Int32.toNatClampNeg 0 = 0 := rfl
  rw [c0] at e2
  have f2 : fr [(2, 14), (2, 15)] z z2 := by rw [e2]; refine fr_sai (by decide) ?_; rw [e1]; exact fr_sai (by decide) fr_r
  have hb2 : hb S H U0 (tq_ai z 14) (-9999) s 1 (fun _ => s) (un U0 s) (tq_ai z2 14) (tq_ai z2 15) := by
    have a1 : tq_ai z2 14 = upd (tq_ai z 14) s 0 := by rw [e2, rw_ain (by omega), e1, rw_aie]
    have a2 : tq_ai z2 15 = upd (tq_ai z 15) 0 (nI s) := by rw [e2, rw_aie, e1, rw_ain (by omega)]
    rw [a1, a2]
    exact hb_0 hs h0 ho.1
  have hb0 : ∀ v, U0 v = true → -300 ≤ (tq_ai z 14 v).toInt ∧ (tq_ai z 14 v).toInt ≤ 300 := fun v hv => (ho.2.2.2.2 v hv).2
  clear e1 e2
  unfold wc_X7_spread_16
  refine lp_inv (fun i t => ∃ n g U z', t = (nI n, nI i, z') ∧ fr [(2, 14), (2, 15)] z z' ∧ hb S H U0 (tq_ai z 14) (-9999) s n g U (tq_ai z' 14) (tq_ai z' 15) ∧ i ≤ n ∧ 0 < n ∧ g 0 = s ∧ ∀ j, j < i → ∀ k, k < 4 → sdc S (g j) k = true → U (toc (g j) k) = true) 81 ?_ ⟨1, _, _, z2, rfl, f2, hb2, by omega, by omega, rfl, fun j hj => by omega⟩
  rintro i t hi ⟨n, g, U, z3, rfl, f3, hb3, hin, hn0, hg0, hdone⟩ B hB
  simp only
  have n81 := hb_81 hb3
  unfold wb_X7_spread_16
  rw [i_le (by omega) (by omega), i_81, i_le (by omega) (by omega)]
  refine ⟨fun q => ?_, fun q => ⟨fun q2 => by omega, fun q2 => ?_⟩⟩
  · refine kk z3 U f3 (hO_b ho hs h0 hb3 hn0 hg0 (fun j hj k hk hsd => hdone j (by omega) k hk hsd))
  · have hin : i < n := by omega
    have hB := hB (by omega)
    have b := hb3.2.2.1 i hin
    have v81 := cnr_81 b.2.1
    obtain ⟨v, hv⟩ : ∃ v, v = g i := ⟨_, rfl⟩
    have j3 := jc_f f3 (by decide) (by decide) (by decide) (by decide) hj
    have hc3 : cvh w S p z3 := by unfold cvh; rw [fr_fl f3 (by decide), fr_fl f3 (by decide)]; exact hc
    rw [i_cl (by omega), b.1, i_9, pk_rem (by omega) (by omega) (by omega), pk_div (by omega) (by omega) (by omega)]
    refine ⟨i_in (by omega) (by omega), fun v1 e1 => ⟨i_in (by omega) (by omega), fun v2 e2 => ⟨i_in (by omega) (by omega), ?_⟩⟩⟩
    rw [e1, e2]
    have vx : g i % 9 ≤ 8 := by omega
    have vy : g i / 9 ≤ 8 := by omega
    have tx : (nI (g i % 9)).toInt = ((g i % 9 : Nat) : Int) := i_ti (by omega)
    have ty : (nI (g i / 9)).toInt = ((g i / 9 : Nat) : Int) := i_ti (by omega)
    -- to the right
    refine sq_riseRight (x := g i % 9 + 1) (y := g i / 9) hd j3 hc3 (by rw [tx]; omega) (by omega) (by omega) (fun x1 ex1 => ⟨_, rfl, ?_⟩)
    refine sq_reachK (k := 0) hp hb0 hb3 hin (by omega) (fun _ => by rw [i_1, i_add]; rfl) (by rw [ex1]; rfl) (fun z4 n4 g4 U4 f4 hb4 m4 s4 u4 d4 => ⟨_, rfl, ?_⟩)
    have f34 := fr_t f3 f4
    have j4 := jc_f f34 (by decide) (by decide) (by decide) (by decide) hj
    have hc4 : cvh w S p z4 := by unfold cvh; rw [fr_fl f34 (by decide), fr_fl f34 (by decide)]; exact hc
    have g4i := s4 i hin
    have b4 := hb4.2.2.1 i (by omega)
    dsimp only
    refine ⟨i_in (by omega) (by omega), ?_⟩
    -- downward
    refine sq_riseDown (x := g i % 9) (y := g i / 9 + 1) hd j4 hc4 (by rw [ty]; omega) (by omega) (by omega) (fun x2 ex2 => ⟨_, rfl, ?_⟩)
    dsimp only
    rw [b4.1]
    refine sq_reachK (k := 2) hp hb0 hb4 (by omega) (by omega) (fun _ => by rw [i_add]; rfl) (by rw [ex2, g4i]; rfl) (fun z5 n5 g5 U5 f5 hb5 m5 s5 u5 d5 => ⟨_, rfl, ?_⟩)
    have f35 := fr_t f34 f5
    have j5 := jc_f f35 (by decide) (by decide) (by decide) (by decide) hj
    have hc5 : cvh w S p z5 := by unfold cvh; rw [fr_fl f35 (by decide), fr_fl f35 (by decide)]; exact hc
    have g5i := (s5 i (by omega)).trans g4i
    have b5 := hb5.2.2.1 i (by omega)
    dsimp only
    refine ⟨i_in (by omega) (by omega), ?_⟩
    -- to the left
    have tx1 : (nI (g i % 9) - (1 : Int32)).toInt = ((g i % 9 : Nat) : Int) - 1 := by rw [nu_sub (by rw [tx, i_t1]; omega) (by rw [tx, i_t1]; omega), tx, i_t1]
    refine sq_riseRight (x := g i % 9) (y := g i / 9) hd j5 hc5 tx1 (by omega) (by omega) (fun x3 ex3 => ⟨_, rfl, ?_⟩)
    dsimp only
    rw [b5.1]
    have nx3 : (-x3).toInt = -x3.toInt := by
      refine fb_negI ?_
      rw [ex3]
      have := vl_b (a := decide ((g i % 9 + g i / 9) % 2 = 0)) (b := bx S (g i % 9) (g i / 9) && Dp p (8 * (g i / 9 - 1) + (g i % 9 - 1)))
      unfold ho0
      split <;> omega
    refine sq_reachK (k := 1) hp hb0 hb5 (by omega) (by omega) (fun hs' => ?_) ?_ (fun z6 n6 g6 U6 f6 hb6 m6 s6 u6 d6 => ⟨_, rfl, ?_⟩)
    · rw [g5i] at hs' ⊢
      rcases (sd_to v81 (by omega) hs').2 with ⟨u, -⟩ | ⟨-, u1, u2, u3, u4⟩ | ⟨u, -⟩ | ⟨u, -⟩
      · omega
      · rw [i_m1 (by omega), u1]
      · omega
      · omega
    · rw [nx3, ex3, g5i, sdc_1]
      have : icr w S p (g i) 1 = -ho0 S p (g i % 9) (g i / 9) := rfl
      rw [this]
      split <;> omega
    have f36 := fr_t f35 f6
    have j6 := jc_f f36 (by decide) (by decide) (by decide) (by decide) hj
    have hc6 : cvh w S p z6 := by unfold cvh; rw [fr_fl f36 (by decide), fr_fl f36 (by decide)]; exact hc
    have g6i := (s6 i (by omega)).trans g5i
    have b6 := hb6.2.2.1 i (by omega)
    dsimp only
    refine ⟨i_in (by omega) (by omega), ?_⟩
    -- upward
    have ty1 : (nI (g i / 9) - (1 : Int32)).toInt = ((g i / 9 : Nat) : Int) - 1 := by rw [nu_sub (by rw [ty, i_t1]; omega) (by rw [ty, i_t1]; omega), ty, i_t1]
    refine sq_riseDown (x := g i % 9) (y := g i / 9) hd j6 hc6 ty1 (by omega) (by omega) (fun x4 ex4 => ⟨_, rfl, ?_⟩)
    dsimp only
    rw [b6.1]
    have nx4 : (-x4).toInt = -x4.toInt := by
      refine fb_negI ?_
      rw [ex4]
      have := vl_b (a := decide ((g i % 9 + g i / 9) % 2 = 1)) (b := bx S (g i % 9) (g i / 9) && Rp w false p (8 * (g i / 9 - 1) + (g i % 9 - 1)))
      unfold ve0
      split <;> omega
    refine sq_reachK (k := 3) hp hb0 hb6 (by omega) (by omega) (fun hs' => ?_) ?_ (fun z7 n7 g7 U7 f7 hb7 m7 s7 u7 d7 => ⟨_, rfl, ?_⟩)
    · rw [g6i] at hs' ⊢
      rcases (sd_to v81 (by omega) hs').2 with ⟨u, -⟩ | ⟨u, -⟩ | ⟨u, -⟩ | ⟨-, u1, u2, u3, u4⟩
      · omega
      · omega
      · omega
      · have m9 : (-nI 9 : Int32).toInt = -9 := by decide +kernel
        have tg : (nI (g i)).toInt = ((g i : Nat) : Int) := i_ti (by omega)
        rw [nu_eq, nu_add (by rw [tg, m9]; omega) (by rw [tg, m9]; omega), tg, m9, u1, i_ti (by omega)]
        omega
    · rw [nx4, ex4, g6i, sdc_3]
      have : icr w S p (g i) 3 = -ve0 w S p (g i % 9) (g i / 9) := rfl
      rw [this]
      split <;> omega
    have g7i := (s7 i (by omega)).trans g6i
    intro v8 e8
    rw [i_1, i_add] at e8
    refine hB _ ⟨n7, g7, U7, z7, by rw [e8], fr_t f36 f7, hb7, by omega, by omega, ?_, fun j hj k hk hsd => ?_⟩
    · rw [s7 0 (by omega), s6 0 (by omega), s5 0 (by omega), s4 0 (by omega)]; exact hg0
    · by_cases e : j = i
      · rw [e] at hsd ⊢
        rw [g7i] at hsd ⊢
        have ek : k = 0 ∨ k = 1 ∨ k = 2 ∨ k = 3 := by omega
        rcases ek with rfl | rfl | rfl | rfl
        · exact u7 _ (u6 _ (u5 _ (d4 hsd)))
        · have := u7 _ (d6 (by rw [g5i]; exact hsd))
          rw [g5i] at this; exact this
        · have := u7 _ (u6 _ (d5 (by rw [g4i]; exact hsd)))
          rw [g4i] at this; exact this
        · have := d7 (by rw [g6i]; exact hsd)
          rw [g6i] at this; exact this
      · have ej : g7 j = g j := by rw [s7 j (by omega), s6 j (by omega), s5 j (by omega), s4 j (by omega)]
        rw [ej] at hsd ⊢
        exact u7 _ (u6 _ (u5 _ (u4 _ (hdone j (by omega) k hk hsd))))
theorem sq_fillRowK {R D : Int64} (hd : jd w h false S) (hj : jc w h false S z) (hc : cvo w false S p R D) (hp : pot w S p H) (kk : ∀ z', fr [(1, 772), (1, 773), (2, 14), (2, 15)] z z' → hts S H (-9999) (tq_ai z' 14) → Q (.inl none) z') : wm_X7_fillRow R D z Q := by
  have hd0 := hd
  obtain ⟨hw1, hw8, hh1, hh8, -, hre⟩ := hd
  unfold wm_X7_fillRow
  intro z1 e1 z2 e2
  refine fw_J7_fill_53178 ⟨rfl, ?_⟩
  obtain ⟨z3, e3⟩ : ∃ z3, z3 = fl_i z2 14 0 81 (-9999) := ⟨_, rfl⟩
  rw [← e3]
  have f3 : fr [(1, 772), (1, 773), (2, 14), (2, 15)] z z3 := by
    rw [e3]; unfold fl_i; refine fr_sai (by decide) ?_
    rw [e2]; refine fr_sfl (by decide) ?_; rw [e1]; exact fr_sfl (by decide) fr_r
  have c3 : cvh w S p z3 := by
    unfold cvh
    have a1 : tq_fl z3 772 = R := by rw [e3]; unfold fl_i; rw [rw_fl_ai, e2, rw_fl_fl, if_neg (by omega), e1, rw_fle]
    have a2 : tq_fl z3 773 = D := by rw [e3]; unfold fl_i; rw [rw_fl_ai, e2, rw_fle]
    rw [a1, a2]; exact hc
  have o3 : hO S H (-9999) 0 (fun _ => false) (tq_ai z3 14) := by
    refine ⟨fun v hv _ => ?_, fun v hv => (by cases hv), fun v _ hv => by omega, fun v k hv => (by cases hv), fun v hv => (by cases hv)⟩
    rw [e3]
    unfold fl_i
    rw [rw_aie, if_pos ⟨by omega, hv⟩]
  clear e1 e2 e3
  unfold wc_X7_fillRow_21
  refine lp_inv (fun y t => ∃ U z', t = (nI y, z') ∧ fr [(1, 772), (1, 773), (2, 14), (2, 15)] z z' ∧ cvh w S p z' ∧ hO S H (-9999) (9 * y) U (tq_ai z' 14)) (h + 1) ?_ ⟨_, z3, rfl, f3, c3, o3⟩
  rintro y t hy ⟨U, z4, rfl, f4, c4, o4⟩ B hB
  simp only
  have j4 := jc_f f4 (by decide) (by decide) (by decide) (by decide) hj
  unfold wb_X7_fillRow_21
  rw [j4.2.1, i_lt (by omega) (by omega)]
  refine ⟨fun q => kk z4 f4 (hO_e o4 (fun v hv => by have := cnr_in hre hv; omega)), fun q => ?_⟩
  have hB := hB (by omega)
  unfold wc_X7_fillRow_36
  refine lp_inv (fun x t => ∃ U z', t = (nI x, z') ∧ fr [(1, 772), (1, 773), (2, 14), (2, 15)] z z' ∧ cvh w S p z' ∧ hO S H (-9999) (9 * y + x) U (tq_ai z' 14)) (w + 1) ?_ ⟨U, z4, rfl, f4, c4, o4⟩
  rintro x t hx ⟨U, z5, rfl, f5, c5, o5⟩ B2 hB2
  simp only
  have j5 := jc_f f5 (by decide) (by decide) (by decide) (by decide) hj
  unfold wb_X7_fillRow_36
  rw [j5.1, i_lt (by omega) (by omega)]
  refine ⟨fun q2 => ?_, fun q2 => ?_⟩
  · unfold wc_X7_fillRow_96
    intro v e
    rw [i_1, i_add] at e
    refine hB _ ⟨U, z5, by rw [e], f5, c5, hO_n o5 (fun u hu1 hu2 hc => ?_)⟩
    have := cnr_in hre hc
    omega
  · have hB2 := hB2 (by omega)
    have go : ∀ U' z6, fr [(1, 772), (1, 773), (2, 14), (2, 15)] z z6 → cvh w S p z6 → hO S H (-9999) (9 * y + x + 1) U' (tq_ai z6 14) → wc_X7_fillRow_90 (fun b6 z => B (b6, z)) (fun b7 z => B2 (b7, z)) Q (nI y) (nI x) z6 := by
      intro U' z6 f6 c6 o6
      unfold wc_X7_fillRow_90
      intro v e
      rw [i_1, i_add] at e
      exact hB2 _ ⟨U', z6, by rw [e], f6, c6, o6⟩
    refine sq_cCorner hd0 j5 (by omega) (by omega) ⟨_, rfl, fun q3 => ?_, fun q3 => ?_⟩
    · rw [bi_0] at q3
      refine go U z5 f5 c5 (hO_n o5 (fun u hu1 hu2 hc => ?_))
      have : u = 9 * y + x := by omega
      rw [this, q3] at hc; cases hc
    · rw [bi_n] at q3
      rw [i_9, pk_mul, i_add, i_cl (by omega)]
      have m9 : (-9999 : Int32).toInt = -9999 := by decide +kernel
      refine ⟨i_in (by omega) (by omega), fun q4 => ?_, fun q4 => ?_⟩
      · refine go U z5 f5 c5 (hO_n o5 (fun u hu1 hu2 hc => ?_))
        have : u = 9 * y + x := by omega
        rw [this]
        cases hU : U (9 * y + x)
        · exact absurd (o5.1 _ (by omega) hU) q4
        · rfl
      · have hU : U (9 * y + x) = false := by
          cases hU : U (9 * y + x)
          · rfl
          · have := (o5.2.2.2.2 _ hU).2
            rw [q4, m9] at this; omega
        refine sq_spreadK hd0 j5 c5 hp o5 q3 hU (fun z6 U6 f6 o6 => ⟨rfl, ?_⟩)
        refine go U6 z6 (fr_t f5 (fr_m (by decide) f6)) ?_ o6
        unfold cvh
        rw [fr_fl f6 (by decide), fr_fl f6 (by decide)]; exact c5
end CHIGH
