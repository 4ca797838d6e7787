/-! ===== the class's table of rows of ends ===== -/
section TAB
variable {z : tq_S} {Q : tq_O → tq_S → Prop}
theorem l_shl18 {m : Nat} (hm : m < 2 ^ 44) : (lN m) <<< ((Int32.toInt64 (18 : Int32)) &&& 63) = lN (m * 262144) := by
  refine ct_ext (fun i hi => ?_)
  rw [show (18 : Int32) = nI 18 from rfl, ct_shl _ i (by omega), decide_eq_true hi, Bool.true_and]
  have e : ∀ n j, j < 64 → ct (lN n) j = n.testBit j := fun n j hj => by
    show (BitVec.ofNat 64 n).getLsbD j = _
    rw [BitVec.getLsbD_ofNat, decide_eq_true hj, Bool.true_and]
  rw [e _ _ (by omega), e _ _ hi, show m * 262144 = 2 ^ 18 * m by omega, Nat.testBit_two_pow_mul]
theorem l_shr18 {n : Nat} (hn : n < 2 ^ 63) : ((Int64.toUInt64 (lN n)) >>> ((Int32.toInt64 (18 : Int32)).toUInt64 &&& Int64.toUInt64 63)).toInt64 = lN (n / 262144) := by
  refine ct_ext (fun i hi => ?_)
  have e : ∀ n j, j < 64 → ct (lN n) j = n.testBit j := fun n j hj => by
    show (BitVec.ofNat 64 n).getLsbD j = _
    rw [BitVec.getLsbD_ofNat, decide_eq_true hj, Bool.true_and]
  rw [show (18 : Int32) = nI 18 from rfl, ct_shr _ i (by omega), e _ _ hi, show n / 262144 = n / 2 ^ 18 from rfl, Nat.testBit_div_two_pow, Nat.add_comm]
  by_cases q : i + 18 < 64
  · rw [e _ _ q]
  · rw [ct_big (by omega), Nat.testBit_lt_two_pow (Nat.lt_of_lt_of_le hn (Nat.pow_le_pow_right (by decide) (by omega)))]
def hsh (k : Nat) : Nat := (nI k * (-1640531535 : Int32)).toBitVec.toNat / 2 ^ 22
theorem hsh_b (k : Nat) : hsh k < 1024 := by
  unfold hsh
  have := (nI k * (-1640531535 : Int32)).toBitVec.isLt
  omega
theorem hsh_e (k : Nat) : ((Int32.toUInt32 (nI k * (-1640531535 : Int32))) >>> ((Int32.toUInt32 (22 : Int32)) &&& Int32.toUInt32 31)).toInt32 = nI (hsh k) := by
  have e := pk_ushr (nI k * (-1640531535 : Int32)) (nI 22) 22 (ib_su ⟨22, by omega⟩)
  refine Int32.toBitVec.inj (BitVec.eq_of_toNat_eq ?_)
  have b := hsh_b k
  show (Int32.toUInt32 (nI k * (-1640531535 : Int32)) >>> ((Int32.toUInt32 (nI 22)) &&& Int32.toUInt32 31)).toInt32.toBitVec.toNat = (BitVec.ofNat 32 (hsh k)).toNat
  rw [e, BitVec.toNat_ofNat, Nat.mod_eq_of_lt (by omega)]
  rfl
/-- the table holds V j ways to the row K j -/
def HT (K V : Nat → Nat) (A : Nat → Int64) : Prop := (∀ j, j < 1024 → A j = if V j = 0 then 0 else lN (V j * 262144 + K j)) ∧ (∀ j, j < 1024 → V j ≠ 0 → bal 9 (K j)) ∧ (∀ j, j < 1024 → V j ≠ 0 → ∃ d, d < 1024 ∧ j = (hsh (K j) + d) % 1024 ∧ ∀ i, i < d → V ((hsh (K j) + i) % 1024) ≠ 0) ∧ ∀ i j, i < 1024 → j < 1024 → V i ≠ 0 → V j ≠ 0 → K i = K j → i = j
def tot (N : Nat) (V : Nat → Nat) : Nat := fb_sm V N
/-- how many ways to a row -/
def wy (N : Nat) (K V : Nat → Nat) (s : Nat) : Nat := fb_sm (fun j => if K j = s then V j else 0) N
theorem ht_list {K V : Nat → Nat} {W : List Nat} {n N : Nat} (hW : W.length = n) (h2 : ∀ j, j < N → V j ≠ 0 → K j ∈ W) (h4 : ∀ i j, i < N → j < N → V i ≠ 0 → V j ≠ 0 → K i = K j → i = j) : fb_ct (fun j => !decide (V j = 0)) N ≤ n := by
  have := cinj (N := n) (P := fun j => !decide (V j = 0)) (R := fun _ => true) (g := fun j => W.idxOf (K j)) (n := N) (fun j hj hv => by
    simp only [Bool.not_eq_true', decide_eq_false_iff_not] at hv
    refine ⟨?_, rfl⟩
    have := List.idxOf_lt_length_of_mem (h2 j hj hv)
    exact Nat.lt_of_lt_of_eq this hW) (fun i j hi hj hvi hvj e => by
    simp only [Bool.not_eq_true', decide_eq_false_iff_not] at hvi hvj
    refine h4 i j hi hj hvi hvj ?_
    have l1 := List.idxOf_lt_length_of_mem (h2 i hi hvi)
    have l2 := List.idxOf_lt_length_of_mem (h2 j hj hvj)
    have g1 := List.getElem_idxOf l1
    have g2 := List.getElem_idxOf l2
    have e : W.idxOf (K i) = W.idxOf (K j) := e
    rw [← g1, ← g2]
    exact getElem_congr rfl e _)
  exact Nat.le_trans this (fb_ct_le _ _)
theorem ht_835 {K V : Nat → Nat} {A : Nat → Int64} (h : HT K V A) : fb_ct (fun j => !decide (V j = 0)) 1024 ≤ 835 := ht_list gen_9 (fun j hj hv => bal_in (h.2.1 j hj hv)) h.2.2.2
theorem sm_up {V : Nat → Nat} {N p v : Nat} (hp : p < N) : fb_sm (fun j => if j = p then v else V j) N + V p = fb_sm V N + v := fb_sm_upd V v hp
theorem sm_w1 {K V : Nat → Nat} {N p v s : Nat} (hp : p < N) : fb_sm (fun j => if K j = s then (if j = p then v else V j) else 0) N + (if K p = s then V p else 0) = fb_sm (fun j => if K j = s then V j else 0) N + (if K p = s then v else 0) := by
  have e : fb_sm (fun j => if K j = s then (if j = p then v else V j) else 0) N = fb_sm (fun j => if j = p then (if K p = s then v else 0) else (if K j = s then V j else 0)) N := fb_sm_cong (fun j _ => by
    by_cases q3 : j = p
    · rw [if_pos q3, if_pos q3, q3]
    · rw [if_neg q3, if_neg q3])
  rw [e]
  exact fb_sm_upd (fun j => if K j = s then V j else 0) (if K p = s then v else 0) hp
theorem sm_w2 {K V : Nat → Nat} {N p m k s : Nat} (hp : p < N) (v0 : V p = 0) : fb_sm (fun j => if (if j = p then k else K j) = s then (if j = p then m else V j) else 0) N = fb_sm (fun j => if K j = s then V j else 0) N + (if k = s then m else 0) := by
  have e : fb_sm (fun j => if (if j = p then k else K j) = s then (if j = p then m else V j) else 0) N = fb_sm (fun j => if j = p then (if k = s then m else 0) else (if K j = s then V j else 0)) N := fb_sm_cong (fun j _ => by
    by_cases q3 : j = p
    · rw [if_pos q3, if_pos q3, if_pos q3]
    · rw [if_neg q3, if_neg q3, if_neg q3])
  have z0 : (if K p = s then V p else 0) = 0 := by rw [v0]; split <;> rfl
  have u := fb_sm_upd (fun j => if K j = s then V j else 0) (if k = s then m else 0) hp
  rw [e]
  have u : fb_sm (fun j => if j = p then (if k = s then m else 0) else (if K j = s then V j else 0)) N + (if K p = s then V p else 0) = fb_sm (fun j => if K j = s then V j else 0) N + (if k = s then m else 0) := u
  rw [z0] at u
  exact u
theorem tot_up {V : Nat → Nat} {N p v : Nat} (hp : p < N) : tot N (fun j => if j = p then v else V j) + V p = tot N V + v := sm_up hp
theorem tot_pt {V : Nat → Nat} {N p : Nat} (hp : p < N) : V p ≤ tot N V := Nat.le_trans (Nat.le_add_left _ _) (fb_sm_part V hp)
theorem wy_1 {K V : Nat → Nat} {N p v : Nat} (s : Nat) (hp : p < N) : wy N K (fun j => if j = p then v else V j) s + (if K p = s then V p else 0) = wy N K V s + (if K p = s then v else 0) := sm_w1 hp
theorem wy_2 {K V : Nat → Nat} {N p m k : Nat} (s : Nat) (hp : p < N) (v0 : V p = 0) : wy N (fun j => if j = p then k else K j) (fun j => if j = p then m else V j) s = wy N K V s + (if k = s then m else 0) := sm_w2 hp v0
theorem ht_not {K V : Nat → Nat} {A : Nat → Int64} (h : HT K V A) {o : Nat} (ha : ∀ i, i < 1024 → V ((o + i) % 1024) ≠ 0) : False := by
  have h8 := ht_835 h
  have : fb_ct (fun j => !decide (V j = 0)) 1024 = 1024 := fb_ct_all.mpr (fun j hj => by
    have := ha ((j + 1024 - o % 1024) % 1024) (Nat.mod_lt _ (by omega))
    rw [show (o + (j + 1024 - o % 1024) % 1024) % 1024 = j by omega] at this
    rw [decide_eq_false this]; rfl)
  omega
theorem sq_loopAdd {N : Nat} {K V : Nat → Nat} {k m : Nat} (hN : N = 1024) (hh : HT K V (tq_al z 45)) (hk : bal 9 k) (hm : 1 ≤ m) (hT : tot N V + m < 2 ^ 44) (kk : ∀ K' V' z', fr [(3, 45)] z z' → HT K' V' (tq_al z' 45) → tot N V' = tot N V + m → (∀ s, wy N K' V' s = wy N K V s + if s = k then m else 0) → Q (.inl none) z') : wm_X10_add (nI k) (lN m) z Q := by
  have k18 : k < 262144 := bal_lt hk
  obtain ⟨h1, h2, h3, h4⟩ := hh
  have hb := hsh_b k
  have V44 : ∀ j, j < 1024 → V j + m < 2 ^ 44 := fun j hj => by
    have := tot_pt (V := V) (show j < N by omega)
    omega
  unfold wm_X10_add
  intro v1 e1
  rw [hsh_e] at e1
  subst e1
  unfold wc_X10_add_12
  refine lp_inv (fun i st => st = (nI i, z) ∧ ∀ i', i' < i → V ((hsh k + i') % 1024) ≠ 0 ∧ K ((hsh k + i') % 1024) ≠ k) 1024 ?_ ⟨rfl, fun i' hi => absurd hi (by omega)⟩
  rintro i st hi ⟨rfl, hn⟩ B hB
  have i1 : i < 1024 := Nat.lt_of_not_le fun q => ht_not ⟨h1, h2, h3, h4⟩ (o := hsh k) (fun i' hi' => (hn i' (by omega)).1)
  simp only
  unfold wb_X10_add_12
  rw [i_1024, i_le (by omega) (by omega)]
  refine ⟨fun q => absurd q (by omega), fun _ v2 e2 => ?_⟩
  rw [i_add, show (1023 : Int32) = nI 1023 from rfl, i_mod (k := 10) rfl, show (2 : Nat) ^ 10 = 1024 from rfl] at e2
  subst e2
  have at1 : (hsh k + i) % 1024 < 1024 := Nat.mod_lt _ (by omega)
  generalize hat : (hsh k + i) % 1024 = p at at1
  rw [i_cl (by omega), h1 p at1, i_to (by omega)]
  have atN : p < N := by omega
  refine ⟨i_in at1 (by omega), fun q => ⟨i_in at1 (by omega), fun q2 v e => ?_, fun q2 => ?_⟩, fun q => ?_⟩
  · have v0 : V p ≠ 0 := fun e => q (by rw [if_pos e])
    rw [if_neg v0] at q2
    have b := V44 p at1
    have kp := bal_lt (h2 p at1 v0)
    rw [show (262143 : Int64) = lN (2 ^ 18 - 1) from rfl, fb_maskL, show (2 : Nat) ^ 18 = 262144 from rfl, show (V p * 262144 + K p) % 262144 = K p by omega] at q2
    rw [i_1, i_add] at e
    subst e
    refine hB i1 _ ⟨rfl, fun i' hi' => ?_⟩
    by_cases q3 : i' = i
    · rw [q3, hat]
      exact ⟨v0, fun e => q2 (by rw [e])⟩
    · exact hn i' (by omega)
  · have v0 : V p ≠ 0 := fun e => q (by rw [if_pos e])
    rw [if_neg v0] at q2
    have b := V44 p at1
    have kp : K p < 262144 := bal_lt (h2 p at1 v0)
    rw [show (262143 : Int64) = lN (2 ^ 18 - 1) from rfl, fb_maskL, show (2 : Nat) ^ 18 = 262144 from rfl, show (V p * 262144 + K p) % 262144 = K p by omega, fb_lN_inj (by omega) (by omega)] at q2
    unfold wc_X10_add_75
    rw [i_cl (by omega), h1 p at1, if_neg v0, l_shl18 (by omega), l_add]
    refine ⟨i_in at1 (by omega), i_in at1 (by omega), fun z1 ez => ?_⟩
    have f1 : fr [(3, 45)] z z1 := by rw [ez]; exact fr_sal (by decide) fr_r
    have a1 : ∀ j, tq_al z1 45 j = if j = p then lN (V p * 262144 + K p + m * 262144) else tq_al z 45 j := fun j => by rw [ez, rw_ale]; rfl
    have V0 : ∀ j, (if j = p then V p + m else V j) = 0 ↔ V j = 0 := fun j => by
      by_cases q3 : j = p
      · rw [if_pos q3, q3]; omega
      · rw [if_neg q3]
    refine kk K (fun j => if j = p then V p + m else V j) z1 f1 ⟨fun j hj => ?_, fun j hj hv => h2 j hj (fun e => hv ((V0 j).mpr e)), fun j hj hv => ?_, fun i j hi hj hvi hvj e => h4 i j hi hj (fun e => hvi ((V0 i).mpr e)) (fun e => hvj ((V0 j).mpr e)) e⟩ ?_ (fun s => ?_)
    · rw [a1]
      by_cases q3 : j = p
      · rw [if_pos q3]
        show _ = if (if j = p then V p + m else V j) = 0 then _ else lN ((if j = p then V p + m else V j) * 262144 + K j)
        rw [if_pos q3, if_neg (by omega), q3, show V p * 262144 + K p + m * 262144 = (V p + m) * 262144 + K p by omega]
      · rw [if_neg q3, h1 j hj]
        show _ = if (if j = p then V p + m else V j) = 0 then _ else lN ((if j = p then V p + m else V j) * 262144 + K j)
        rw [if_neg q3]
    · obtain ⟨d, d1, d2, d3⟩ := h3 j hj (fun e => hv ((V0 j).mpr e))
      exact ⟨d, d1, d2, fun i' hi' e => d3 i' hi' ((V0 _).mp e)⟩
    · have := tot_up (V := V) (v := V p + m) atN
      omega
    · have u := wy_1 (K := K) (V := V) (v := V p + m) s atN
      by_cases q3 : s = k
      · have ks : K p = s := by omega
        rw [if_pos ks, if_pos ks] at u
        rw [if_pos q3]; omega
      · have ks : ¬ K p = s := by omega
        rw [if_neg ks, if_neg ks] at u
        rw [if_neg q3]; omega
  · have v0 : V p = 0 := by
      refine Classical.byContradiction fun e => ?_
      rw [if_neg e] at q
      have b := V44 p at1
      have kp : K p < 262144 := bal_lt (h2 p at1 e)
      rw [show (0 : Int64) = lN 0 from rfl, fb_lN_inj (by omega) (by omega)] at q
      omega
    have hno : ∀ j, j < 1024 → V j ≠ 0 → K j ≠ k := by
      intro j hj hv e
      obtain ⟨d, d1, d2, d3⟩ := h3 j hj hv
      rw [e] at d2 d3
      rcases Nat.lt_trichotomy d i with q3 | q3 | q3
      · have := (hn d q3).2
        rw [← d2] at this
        exact this e
      · rw [q3, hat] at d2
        rw [d2] at hv
        exact hv v0
      · have := d3 i q3
        rw [hat] at this
        exact this v0
    unfold wc_X10_add_43
    rw [i_cl (by omega), l_shl18 (by omega), i_to (by omega), show m * 262144 = 2 ^ 18 * m by omega, fb_or_sumL m (show k < 2 ^ 18 from k18)]
    refine ⟨i_in at1 (by omega), fun z1 ez => ?_⟩
    have f1 : fr [(3, 45)] z z1 := by rw [ez]; exact fr_sal (by decide) fr_r
    have a1 : ∀ j, tq_al z1 45 j = if j = p then lN (2 ^ 18 * m + k) else tq_al z 45 j := fun j => by rw [ez, rw_ale]; rfl
    have V0 : ∀ j, V j ≠ 0 → (if j = p then m else V j) ≠ 0 := fun j hv => by
      by_cases q3 : j = p
      · rw [if_pos q3]; omega
      · rw [if_neg q3]; exact hv
    refine kk (fun j => if j = p then k else K j) (fun j => if j = p then m else V j) z1 f1 ⟨fun j hj => ?_, fun j hj hv => ?_, fun j hj hv => ?_, fun i j hi hj hvi hvj e => ?_⟩ ?_ (fun s => ?_)
    · rw [a1]
      show _ = if (if j = p then m else V j) = 0 then _ else lN ((if j = p then m else V j) * 262144 + (if j = p then k else K j))
      by_cases q3 : j = p
      · rw [if_pos q3, if_pos q3, if_pos q3, if_neg (by omega)]
        congr 1; omega
      · rw [if_neg q3, if_neg q3, if_neg q3, h1 j hj]
    · show bal 9 (if j = p then k else K j)
      by_cases q3 : j = p
      · rw [if_pos q3]; exact hk
      · rw [if_neg q3]
        have hv : (if j = p then m else V j) ≠ 0 := hv
        rw [if_neg q3] at hv
        exact h2 j hj hv
    · show ∃ d, d < 1024 ∧ j = (hsh (if j = p then k else K j) + d) % 1024 ∧ ∀ i, i < d → (if (hsh (if j = p then k else K j) + i) % 1024 = p then m else V ((hsh (if j = p then k else K j) + i) % 1024)) ≠ 0
      by_cases q3 : j = p
      · rw [if_pos q3]
        exact ⟨i, i1, by rw [q3]; exact hat.symm, fun i' hi' => V0 _ (hn i' hi').1⟩
      · rw [if_neg q3]
        have hv : (if j = p then m else V j) ≠ 0 := hv
        rw [if_neg q3] at hv
        obtain ⟨d, d1, d2, d3⟩ := h3 j hj hv
        exact ⟨d, d1, d2, fun i' hi' => V0 _ (d3 i' hi')⟩
    · have hvi : (if i = p then m else V i) ≠ 0 := hvi
      have hvj : (if j = p then m else V j) ≠ 0 := hvj
      have e : (if i = p then k else K i) = (if j = p then k else K j) := e
      by_cases q3 : i = p
      · by_cases q4 : j = p
        · omega
        · rw [if_pos q3, if_neg q4] at e
          rw [if_neg q4] at hvj
          exact absurd e.symm (hno j hj hvj)
      · by_cases q4 : j = p
        · rw [if_neg q3, if_pos q4] at e
          rw [if_neg q3] at hvi
          exact absurd e (hno i hi hvi)
        · rw [if_neg q3, if_neg q4] at e
          rw [if_neg q3] at hvi
          rw [if_neg q4] at hvj
          exact h4 i j hi hj hvi hvj e
    · have := tot_up (V := V) (v := m) atN
      omega
    · rw [wy_2 s atN v0]
      by_cases q3 : s = k
      · rw [if_pos q3, if_pos q3.symm]
      · rw [if_neg q3, if_neg (fun e => q3 e.symm)]
end TAB
