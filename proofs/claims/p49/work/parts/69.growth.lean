/-! ===== strips: the class's rules and its front ===== -/
theorem sL_len (w : Nat) : ∀ n, (sL w n).length = n + 1
  | 0 => rfl
  | n + 1 => by
    show ((if n + 1 < sOrd w then (((sIni w).getD (n + 1) 0 : Nat) : Int) else sLc w (sL w n)) :: sL w n).length = _
    rw [List.length_cons, sL_len w n]
def sX (w n : Nat) : Int := (sL w n).getD 0 0
theorem sL_at (w : Nat) : ∀ n j, j ≤ n → (sL w n).getD j 0 = sX w (n - j)
  | n, 0, _ => rfl
  | 0, j + 1, h => by omega
  | n + 1, j + 1, h => by
    show (sL w n).getD j 0 = sX w (n + 1 - (j + 1))
    rw [sL_at w n j (by omega)]
    congr 1; omega
theorem sX_r {w n : Nat} (h : sOrd w ≤ n + 1) : sX w (n + 1) = fb_si (fun i => sF w (i + 1) * sX w (n - i)) (sOrd w) := by
  show (if n + 1 < sOrd w then (((sIni w).getD (n + 1) 0 : Nat) : Int) else sLc w (sL w n)) = _
  rw [if_neg (by omega)]
  unfold sLc
  refine fb_si_cong (fun i hi => ?_)
  rw [sL_at w n i (by omega)]
theorem sX_i {w n : Nat} (h : n < sOrd w) : sX w n = ((sIni w).getD n 0 : Nat) := by
  cases n with
  | zero => rfl
  | succ n =>
    show (if n + 1 < sOrd w then (((sIni w).getD (n + 1) 0 : Nat) : Int) else sLc w (sL w n)) = _
    rw [if_pos h]
def wd (w : Nat) : Prop := w = 1 ∨ w = 2 ∨ w = 3 ∨ w = 4 ∨ w = 5 ∨ w = 6
theorem wd_i {w : Nat} (h1 : 1 ≤ w) (h2 : w ≤ 6) : wd w := by unfold wd; omega
theorem wd_b {w : Nat} (h : wd w) : 1 ≤ w ∧ w ≤ 6 := by unfold wd at h; omega
theorem wd_o {w : Nat} (h : wd w) : 2 ≤ sOrd w ∧ sOrd w ≤ 8 := by
  rcases h with rfl | rfl | rfl | rfl | rfl | rfl <;> decide +kernel
theorem sX_b {w n : Nat} (hw : wd w) (hn : n ≤ 300) : 0 ≤ sX w n ∧ sX w n < sBig := by
  have h : sOk w = true := by
    rcases hw with rfl | rfl | rfl | rfl | rfl | rfl
    · exact sOk_1
    · exact sOk_2
    · exact sOk_3
    · exact sOk_4
    · exact sOk_5
    · exact sOk_6
  unfold sOk at h
  rw [List.all_eq_true] at h
  have e := sL_at w 300 (300 - n) (by omega)
  have e2 : 300 - (300 - n) = n := by omega
  rw [e2] at e
  have hl : 300 - n < (sL w 300).length := by rw [sL_len]; omega
  have hm : sX w n ∈ sL w 300 := by
    rw [← e, List.getD_eq_getElem?_getD, List.getElem?_eq_getElem hl]
    exact List.getElem_mem hl
  have := h _ hm
  rw [Bool.and_eq_true, decide_eq_true_eq, decide_eq_true_eq] at this
  exact this
def sN (w n : Nat) : Nat := (sX w n).toNat
theorem sN_X {w n : Nat} (hw : wd w) (hn : n ≤ 300) : ((sN w n : Nat) : Int) = sX w n := by
  unfold sN
  have := (sX_b hw hn).1
  omega
theorem sN_b {w n : Nat} (hw : wd w) (hn : n ≤ 300) : sN w n < 1000000000 ^ 26 := by
  have h1 := (sX_b hw hn).2
  have h2 := sN_X hw hn
  have h3 : sBig = ((1000000000 ^ 26 : Nat) : Int) := by decide +kernel
  rw [h3] at h1
  omega
theorem sF_t : ∀ w : Fin 7, ∀ i : Fin 8, i.val < sOrd w.val → w.val ≠ 0 → (tq_ends.getD w.val 0 - tq_ends.getD (w.val - 1) 0 = nI (sOrd w.val)) ∧ (Int32.toNatClampNeg (tq_ends.getD (w.val - 1) 0 + nI (i.val + 1) - 1) < 28 ∧ ¬ (tq_ends.getD (w.val - 1) 0 + nI (i.val + 1) - 1 < 0)) ∧ tq_facs.getD (Int32.toNatClampNeg (tq_ends.getD (w.val - 1) 0 + nI (i.val + 1) - 1)) 0 = Int32.ofInt (sF w.val (i.val + 1)) ∧ -100 ≤ sF w.val (i.val + 1) ∧ sF w.val (i.val + 1) ≤ 100 := by decide +kernel
section GROWTH
variable {z : tq_S} {Q : tq_O → tq_S → Prop} {w : Nat}
theorem sq_orderOf (hw : wd w) (k : Q (.inl (some (.int (nI (sOrd w))))) z) : wm_X6_orderOf (nI w) z Q := by
  have hb := wd_b hw
  have ho := wd_o hw
  have l7 : tq_ends.length = 7 := rfl
  unfold wm_X6_orderOf
  rw [l7, i_1, pk_sub hb.1, i_cl (by omega), i_cl (by omega)]
  refine ⟨i_in (by omega) (by omega), i_in (by omega) (by omega), ?_⟩
  have := (sF_t ⟨w, by omega⟩ ⟨0, by omega⟩ (by show 0 < sOrd w; omega) (by show w ≠ 0; omega)).1
  simp only at this
  rw [this]; exact k
theorem sF_b {i : Nat} (hw : wd w) (hi : i < sOrd w) : -100 ≤ sF w (i + 1) ∧ sF w (i + 1) ≤ 100 := by
  have hb := wd_b hw
  have ho := wd_o hw
  exact (sF_t ⟨w, by omega⟩ ⟨i, by omega⟩ hi (by show w ≠ 0; omega)).2.2.2
theorem sq_factor {i : Nat} (hw : wd w) (hi : i < sOrd w) (k : ∀ v : Int32, v.toInt = sF w (i + 1) → Q (.inl (some (.int v))) z) : wm_X6_factor (nI w) (nI (i + 1)) z Q := by
  have hb := wd_b hw
  have ho := wd_o hw
  have l7 : tq_ends.length = 7 := rfl
  have l28 : tq_facs.length = 28 := rfl
  obtain ⟨h1, ⟨h2, h3⟩, h4, h5, h6⟩ := sF_t ⟨w, by omega⟩ ⟨i, by omega⟩ hi (by show w ≠ 0; omega)
  simp only at h1 h2 h3 h4 h5 h6
  unfold wm_X6_factor
  rw [l7, l28, i_1, pk_sub hb.1, i_cl (by omega), ← i_1, h4]
  refine ⟨i_in (by omega) (by omega), fun h => ?_, k _ (fb_ofI (by omega) (by omega))⟩
  rcases h with h | h
  · exact h3 h
  · omega
/-! the front -/
theorem gd_range {m : Nat} {f : Nat → Nat} {k : Nat} : ((List.range m).map f).getD k 0 = if k < m then f k else 0 := by
  rw [List.getD_eq_getElem?_getD, List.getElem?_map]
  by_cases q : k < m
  · rw [if_pos q, List.getElem?_range q]; rfl
  · rw [if_neg q, List.getElem?_eq_none (by rw [List.length_range]; omega)]; rfl
def pcA (w x M : Nat) (C : Nat → Nat) (d : Nat) : Nat := (if d ^^^ 2 ^ x < M then C (d ^^^ 2 ^ x) else 0) + (if (x + 1 < w ∧ d.testBit (x + 1) = true ∧ d.testBit x = false) ∧ d ^^^ 2 ^ (x + 1) < M then C (d ^^^ 2 ^ (x + 1)) else 0)
theorem xr_lt2 {d x w : Nat} (hd : d < 2 ^ w) (hx : x < w) : d ^^^ 2 ^ x < 2 ^ w := Nat.xor_lt_two_pow hd (Nat.pow_lt_pow_right (by omega) hx)
theorem xr_x {d x : Nat} : d ^^^ 2 ^ x ^^^ 2 ^ x = d := by rw [Nat.xor_assoc, Nat.xor_self, Nat.xor_zero]
theorem pcA_s {x M d : Nat} {C : Nat → Nat} : pcA w x (M + 1) C d = pcA w x M C d + (if d = M ^^^ 2 ^ x then C M else 0) + (if (x + 1 < w ∧ M.testBit x = false ∧ M.testBit (x + 1) = false) ∧ d = M ^^^ 2 ^ (x + 1) then C M else 0) := by
  unfold pcA
  have a1 : (if d ^^^ 2 ^ x < M + 1 then C (d ^^^ 2 ^ x) else 0) = (if d ^^^ 2 ^ x < M then C (d ^^^ 2 ^ x) else 0) + (if d = M ^^^ 2 ^ x then C M else 0) := by
    by_cases q : d = M ^^^ 2 ^ x
    · subst q
      rw [xr_x, if_pos (by omega), if_neg (by omega), if_pos rfl]; omega
    · have : d ^^^ 2 ^ x ≠ M := fun e => q (by rw [← e, xr_x])
      by_cases q2 : d ^^^ 2 ^ x < M
      · rw [if_pos q2, if_pos (by omega), if_neg q]; rfl
      · rw [if_neg q2, if_neg (by omega), if_neg q]
  have a2 : (if (x + 1 < w ∧ d.testBit (x + 1) = true ∧ d.testBit x = false) ∧ d ^^^ 2 ^ (x + 1) < M + 1 then C (d ^^^ 2 ^ (x + 1)) else 0) = (if (x + 1 < w ∧ d.testBit (x + 1) = true ∧ d.testBit x = false) ∧ d ^^^ 2 ^ (x + 1) < M then C (d ^^^ 2 ^ (x + 1)) else 0) + (if (x + 1 < w ∧ M.testBit x = false ∧ M.testBit (x + 1) = false) ∧ d = M ^^^ 2 ^ (x + 1) then C M else 0) := by
    by_cases q : d = M ^^^ 2 ^ (x + 1)
    · subst q
      rw [xr_x]
      have b1 : (M ^^^ 2 ^ (x + 1)).testBit (x + 1) = !M.testBit (x + 1) := by rw [xr_b]; simp
      have b2 : (M ^^^ 2 ^ (x + 1)).testBit x = M.testBit x := by rw [xr_b]; simp
      rw [b1, b2]
      by_cases q1 : x + 1 < w ∧ M.testBit x = false ∧ M.testBit (x + 1) = false
      · rw [if_pos ⟨⟨q1.1, by rw [q1.2.2]; rfl, q1.2.1⟩, by omega⟩, if_neg (by omega), if_pos ⟨q1, rfl⟩]; omega
      · have n1 : ¬ (x + 1 < w ∧ (!M.testBit (x + 1)) = true ∧ M.testBit x = false) := fun u => q1 ⟨u.1, u.2.2, by simpa using u.2.1⟩
        rw [if_neg (fun u => n1 u.1), if_neg (fun u => n1 u.1), if_neg (fun u => q1 u.1)]
    · have : d ^^^ 2 ^ (x + 1) ≠ M := fun e => q (by rw [← e, xr_x])
      rw [if_neg (c := (x + 1 < w ∧ M.testBit x = false ∧ M.testBit (x + 1) = false) ∧ d = M ^^^ 2 ^ (x + 1)) (fun u => q u.2)]
      by_cases q2 : (x + 1 < w ∧ d.testBit (x + 1) = true ∧ d.testBit x = false) ∧ d ^^^ 2 ^ (x + 1) < M
      · rw [if_pos q2, if_pos (c := (x + 1 < w ∧ d.testBit (x + 1) = true ∧ d.testBit x = false) ∧ d ^^^ 2 ^ (x + 1) < M + 1) ⟨q2.1, by omega⟩]; rfl
      · rw [if_neg q2, if_neg (c := (x + 1 < w ∧ d.testBit (x + 1) = true ∧ d.testBit x = false) ∧ d ^^^ 2 ^ (x + 1) < M + 1) (fun u => q2 ⟨u.1, by omega⟩)]
  rw [a1, a2]; omega
theorem pcA_0 {x d : Nat} {C : Nat → Nat} : pcA w x 0 C d = 0 := by
  unfold pcA
  rw [if_neg (by omega), if_neg (by omega)]
theorem pcA_e {x d : Nat} {C : Nat → Nat} (hd : d < 2 ^ w) (hx : x < w) : pcA w x (2 ^ w) C d = pcl w x C d := by
  unfold pcA pcl
  rw [if_pos (xr_lt2 hd hx)]
  congr 1
  by_cases q : x + 1 < w ∧ d.testBit (x + 1) = true ∧ d.testBit x = false
  · rw [if_pos q, if_pos ⟨q, xr_lt2 hd q.1⟩]
  · rw [if_neg q, if_neg (fun u => q u.1)]
theorem sq_passCell {x : Nat} {C : Nat → Nat} (hw : wd w) (hx : x < w) (hC : ∀ d, d < 2 ^ w → tq_al z 40 d = lN (C d)) (k : ∀ z', fr [(3, 41)] z z' → (∀ d, d < 2 ^ w → tq_al z' 41 d = lN (pcl w x C d)) → Q (.inl none) z') : wm_X6_passCell (nI x) (nI w) z Q := by
  have hb := wd_b hw
  have p64 : 2 ^ w ≤ 64 := by
    have : (2 : Nat) ^ w ≤ 2 ^ 6 := Nat.pow_le_pow_right (by omega) hb.2
    omega
  unfold wm_X6_passCell
  intro v1 e1 v2 e2
  rw [i_pw (by omega)] at e1
  have e2 : v2 = nI (2 ^ (x + 1)) := by
    have px : (2 : Nat) ^ x < 64 := Nat.lt_of_lt_of_le (Nat.pow_lt_pow_right (by omega) hx) p64
    rw [e2, e1, pk_shlN _ 1 (by decide +kernel) (by omega), Nat.pow_one, Nat.pow_succ]
  rw [e1, e2]
  refine fw_J7_fill_d0a16_r6 ⟨rfl, ?_⟩
  have z0 : ∀ d, d < 64 → tq_al (fl_l z 41 0 64 0) 41 d = 0 := by
    intro d hd
    unfold fl_l
    rw [rw_ale, if_pos ⟨by omega, hd⟩]
  have f0 : fr [(3, 41)] z (fl_l z 41 0 64 0) := by unfold fl_l; exact fr_sal (by decide) fr_r
  unfold wc_X6_passCell_20
  refine lp_inv (fun m s => ∃ z', s = (nI m, z') ∧ fr [(3, 41)] z z' ∧ ∀ d, d < 2 ^ w → tq_al z' 41 d = lN (pcA w x m C d)) (2 ^ w) ?_ ⟨_, rfl, f0, fun d hd => by rw [z0 d (by omega), pcA_0]; rfl⟩
  rintro m s hm ⟨z1, rfl, f1, a1⟩ B hB
  simp only
  unfold wb_X6_passCell_20
  rw [i_pw (by omega), i_le (by omega) (by omega)]
  refine ⟨fun h1 => ?_, fun h1 => ?_⟩
  · have : m = 2 ^ w := by omega
    subst this
    exact k z1 f1 (fun d hd => by rw [a1 d hd, pcA_e hd hx])
  · have hB := hB (by omega)
    have mlt : m < 2 ^ w := by omega
    have px : (2 : Nat) ^ x < 64 := Nat.lt_of_lt_of_le (Nat.pow_lt_pow_right (by omega) hx) p64
    have c40 : tq_al z1 40 = tq_al z 40 := fr_al f1 (by decide)
    have fin : ∀ z2, fr [(3, 41)] z z2 → (∀ d, d < 2 ^ w → tq_al z2 41 d = lN (pcA w x (m + 1) C d)) → wc_X6_passCell_113 (fun b5 z => B (b5, z)) Q (nI x) (nI w) (nI (2 ^ x)) (nI (2 ^ (x + 1))) (nI m) z2 := by
      intro z2 f2 a2
      unfold wc_X6_passCell_113
      intro v e
      rw [i_1, i_add] at e
      exact hB _ ⟨z2, by rw [e], f2, a2⟩
    have tb : ∀ y, (nI m &&& nI (2 ^ y)) = 0 ↔ m.testBit y = false := by
      intro y
      by_cases hy : y < 31
      · have : 2 ^ y < 2 ^ 31 := Nat.pow_lt_pow_right (by omega) hy
        rw [i_and, i_0, i_eq (Nat.lt_of_le_of_lt Nat.and_le_left (by omega)) (by omega), fb_bit_nat]
      · rw [i_and, i_0, i_eq (Nat.lt_of_le_of_lt Nat.and_le_left (by omega)) (by omega), fb_bit_nat]
    have xm := xr_lt2 mlt hx
    rw [tb x]
    refine ⟨fun h2 => ?_, fun h2 => ?_⟩
    · rw [i_or, ← xr_or h2, i_cl (by omega), i_cl (by omega), c40, hC m mlt, a1 _ xm, l_add]
      refine ⟨i_in (by omega) (by omega), i_in (by omega) (by omega), i_in (by omega) (by omega), fun z2 e3 => ?_⟩
      have b2 : ∀ d, d < 2 ^ w → tq_al z2 41 d = lN (pcA w x m C d + (if d = m ^^^ 2 ^ x then C m else 0)) := by
        intro d hd
        rw [e3, rw_ale, rw_updL]
        by_cases q : d = m ^^^ 2 ^ x
        · rw [if_pos q, if_pos q, q]
        · rw [if_neg q, if_neg q, Nat.add_zero]; exact a1 d hd
      have f2 : fr [(3, 41)] z z2 := by rw [e3]; exact fr_sal (by decide) f1
      rw [i_1, i_add, i_le (by omega) (by omega), tb (x + 1)]
      refine ⟨fun h3 => fin z2 f2 (fun d hd => ?_), fun h3 => ⟨fun h4 => fin z2 f2 (fun d hd => ?_), fun h4 => ?_⟩⟩
      · rw [b2 d hd, pcA_s, if_neg (c := (x + 1 < w ∧ m.testBit x = false ∧ m.testBit (x + 1) = false) ∧ d = m ^^^ 2 ^ (x + 1)) (fun u => absurd u.1.1 (by omega)), Nat.add_zero]
      · rw [b2 d hd, pcA_s, if_neg (c := (x + 1 < w ∧ m.testBit x = false ∧ m.testBit (x + 1) = false) ∧ d = m ^^^ 2 ^ (x + 1)) (fun u => h4 u.1.2.2), Nat.add_zero]
      · have x1 : x + 1 < w := by omega
        have xm1 := xr_lt2 mlt x1
        have c402 : tq_al z2 40 = tq_al z 40 := by rw [fr_al f2 (by decide)]
        rw [i_or, ← xr_or h4, i_cl (by omega), c402, hC m mlt, b2 _ xm1, l_add]
        refine ⟨i_in (by omega) (by omega), i_in (by omega) (by omega), i_in (by omega) (by omega), fun z3 e4 => fin z3 (by rw [e4]; exact fr_sal (by decide) f2) (fun d hd => ?_)⟩
        rw [e4, rw_ale, rw_updL, pcA_s]
        by_cases q : d = m ^^^ 2 ^ (x + 1)
        · rw [if_pos q, if_pos (c := (x + 1 < w ∧ m.testBit x = false ∧ m.testBit (x + 1) = false) ∧ d = m ^^^ 2 ^ (x + 1)) ⟨⟨x1, h2, h4⟩, q⟩, q]
        · rw [if_neg q, if_neg (c := (x + 1 < w ∧ m.testBit x = false ∧ m.testBit (x + 1) = false) ∧ d = m ^^^ 2 ^ (x + 1)) (fun u => q u.2), Nat.add_zero]; exact b2 d hd
    · have h2 : m.testBit x = true := by simpa using h2
      have e5 : nI m &&& (nI (2 ^ x) ^^^ (-1 : Int32)) = nI (m ^^^ 2 ^ x) := by
        refine ib_ext (fun j hj => ?_)
        rw [ib_and, ib_xor, ib_m1, ib_n, ib_n, ib_n, xr_b, Nat.testBit_two_pow]
        by_cases q : x = j
        · subst q; rw [h2]; simp
        · simp [q, hj]
      rw [e5, i_cl (by omega), i_cl (by omega), c40, hC m mlt, a1 _ xm, l_add]
      refine ⟨i_in (by omega) (by omega), i_in (by omega) (by omega), i_in (by omega) (by omega), fun z2 e3 => fin z2 (by rw [e3]; exact fr_sal (by decide) f1) (fun d hd => ?_)⟩
      rw [e3, rw_ale, rw_updL, pcA_s, if_neg (c := (x + 1 < w ∧ m.testBit x = false ∧ m.testBit (x + 1) = false) ∧ d = m ^^^ 2 ^ (x + 1)) (fun u => by rw [h2] at u; exact absurd u.1.2.1 (by simp)), Nat.add_zero]
      by_cases q : d = m ^^^ 2 ^ x
      · rw [if_pos q, if_pos q, q]
      · rw [if_neg q, if_neg q, Nat.add_zero]; exact a1 d hd
theorem pcl_lt {x : Nat} {c : List Nat} {C : Nat → Nat} (h : ∀ d, d < 2 ^ w → c.getD d 0 = C d) {d : Nat} (hd : d < 2 ^ w) (hx : x < w) : (pcL w x c).getD d 0 = pcl w x C d := by
  unfold pcL
  rw [gd_range, if_pos hd]
  unfold pcl
  dsimp only
  rw [h _ (xr_lt2 hd hx)]
  congr 1
  by_cases q : x + 1 < w ∧ d.testBit (x + 1) = true ∧ d.testBit x = false
  · rw [if_pos q, if_pos q, h _ (xr_lt2 hd q.1)]
  · rw [if_neg q, if_neg q]
theorem sq_byFront {n : Nat} (hw : wd w) (hn : n < 1000) (k : ∀ z', fr [(3, 40), (3, 41)] z z' → Q (.inl (some (.long (lN ((bfL w n).getD 0 0))))) z') : wm_X6_byFront (nI w) (nI n) z Q := by
  have hb := wd_b hw
  have p64 : 2 ^ w ≤ 64 := by
    have : (2 : Nat) ^ w ≤ 2 ^ 6 := Nat.pow_le_pow_right (by omega) hb.2
    omega
  have p1 : 0 < 2 ^ w := Nat.pow_pos (by omega)
  unfold wm_X6_byFront
  refine fw_J7_fill_d0a16_r5 ⟨rfl, ?_⟩
  intro z1 e1
  have f1 : fr [(3, 40), (3, 41)] z z1 := by rw [e1]; unfold fl_l; exact fr_sal (by decide) (fr_sal (by decide) fr_r)
  have a1 : ∀ d, d < 2 ^ w → tq_al z1 40 d = lN ((bfL w 0).getD d 0) := by
    intro d hd
    have c0 : Int32.toNatClampNeg 0 = 0 := rfl
    show _ = lN (((List.range (2 ^ w)).map (fun d => if d = 0 then 1 else 0)).getD d 0)
    rw [gd_range, if_pos hd, e1, rw_ale, rw_updL, c0]
    by_cases q : d = 0
    · rw [if_pos q, if_pos q]; rfl
    · rw [if_neg q, if_neg q]
      unfold fl_l
      rw [rw_ale, if_pos ⟨by omega, by omega⟩]; rfl
  unfold wc_X6_byFront_17
  refine lp_inv (fun m s => ∃ z', s = (nI m, z') ∧ fr [(3, 40), (3, 41)] z z' ∧ ∀ d, d < 2 ^ w → tq_al z' 40 d = lN ((bfL w m).getD d 0)) n ?_ ⟨z1, rfl, f1, a1⟩
  rintro m s hm ⟨z2, rfl, f2, a2⟩ B hB
  simp only
  unfold wb_X6_byFront_17
  rw [i_le (by omega) (by omega)]
  refine ⟨fun h1 => ?_, fun h1 => ?_⟩
  · have : m = n := by omega
    subst this
    unfold wc_X6_byFront_68
    have c0 : Int32.toNatClampNeg 0 = 0 := rfl
    rw [c0, a2 0 p1]
    exact k z2 f2
  · have hB := hB (by omega)
    unfold wc_X6_byFront_25
    refine lp_inv (fun x s => ∃ z', s = (nI x, z') ∧ fr [(3, 40), (3, 41)] z z' ∧ ∀ d, d < 2 ^ w → tq_al z' 40 d = lN ((pcC w x (bfL w m)).getD d 0)) w ?_ ⟨z2, rfl, f2, a2⟩
    rintro x s hx ⟨z3, rfl, f3, a3⟩ B2 hB2
    simp only
    unfold wb_X6_byFront_25
    rw [i_le (by omega) (by omega)]
    refine ⟨fun h2 => ?_, fun h2 => ?_⟩
    · have : x = w := by omega
      subst this
      unfold wc_X6_byFront_62
      intro v e
      rw [i_1, i_add] at e
      exact hB _ ⟨z3, by rw [e], f3, a3⟩
    · refine sq_passCell hw (by omega) a3 (fun z4 f4 a4 => ⟨rfl, ?_⟩)
      have c0 : Int32.toNatClampNeg 0 = 0 := rfl
      have c64 : Int32.toNatClampNeg (Int32.ofNat 64) = 64 := rfl
      rw [c0, c64]
      refine ⟨by decide +kernel, by decide +kernel, by decide +kernel, by omega, by omega, fun z5 e5 v e6 => ?_⟩
      rw [i_1, i_add] at e6
      refine hB2 (by omega) _ ⟨z5, by rw [e6], by rw [e5]; exact fr_sal (by decide) (fr_t f3 (fr_m (by decide) f4)), fun d hd => ?_⟩
      rw [e5, rw_ale, pk_cpy_in (by omega) (by omega)]
      have : 0 + (d - 0) = d := by omega
      rw [this, a4 d hd]
      show _ = lN ((pcL w x (pcC w x (bfL w m))).getD d 0)
      rw [pcl_lt (fun _ _ => rfl) hd (by omega)]
end GROWTH
