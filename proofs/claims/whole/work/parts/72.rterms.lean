/-! ===== strips: the reference's terms ===== -/
theorem md_a (a m b c P : Nat) : ((a + m * b) % P + m * c) % P = (a + m * (b + c)) % P := by
  rw [Nat.mod_add_mod, Nat.mul_add, Nat.add_assoc]
section RTERMS
variable {z : tq_S} {Q : tq_O → tq_S → Prop} {w : Nat}
theorem cR_1 {x f dn d : Nat} : cR 1 x f dn d = if f.testBit x = true then (if d = dn then 1 else 0) else (if d = dn ||| 2 ^ x then 1 else 0) := rfl
theorem cR_t {k x f dn d : Nat} (h : f.testBit x = true) : cR (k + 1) x f dn d = cR k (x + 1) f dn d := by
  cases k with
  | zero => rw [cR_1, if_pos h]; rfl
  | succ k =>
    show (if f.testBit x = true then cR (k + 1) (x + 1) f dn d else _) = _
    rw [if_pos h]
theorem sq_stripRow : ∀ (f k x fi dn : Nat) (W : Nat → Nat) (m : Nat) (z : tq_S) (Q : tq_O → tq_S → Prop), k < f → x + k = w → w ≤ 6 → fi < 64 → dn < 2 ^ x → (∀ d, d < 64 → tq_al z 55 d = lN (W d) ∧ W d < 2147483647) → m < 2147483647 → (∀ z', fr [(3, 55)] z z' → (∀ d, d < 64 → tq_al z' 55 d = lN ((W d + m * cR k x fi dn d) % 2147483647)) → Q (.inl none) z') → wm_X12_stripRow f (nI w) (nI x) (nI fi) (nI dn) (lN m) z Q := by
  intro f
  induction f with
  | zero => intro k x fi dn W m z Q h; omega
  | succ f ih =>
    intro k x fi dn W m z Q hk hx hw hfi hdn hW hm K
    have p64 : ∀ y, y ≤ 6 → (2 : Nat) ^ y ≤ 64 := fun y hy => by
      have : (2 : Nat) ^ y ≤ 2 ^ 6 := Nat.pow_le_pow_right (by omega) hy
      omega
    have px := p64 x (by omega)
    show we_X12_stripRow (wm_X12_stripRow f) (nI w) (nI x) (nI fi) (nI dn) (lN m) z Q
    unfold we_X12_stripRow
    rw [i_eq (by omega) (by omega)]
    refine ⟨fun hxw => ?_, fun hxw => ?_⟩
    · obtain ⟨k, rfl⟩ : ∃ k', k = k' + 1 := ⟨k - 1, by omega⟩
      have b1 : ∀ y, y < 31 → ((((nI fi) >>> ((nI y) &&& 31)) &&& (1 : Int32)) = 1 ↔ fi.testBit y = true) := by
        intro y hy
        rw [i_tb (by omega) hy]
        cases fi.testBit y <;> decide +kernel
      have b0 : ∀ y, y < 31 → ((((nI fi) >>> ((nI y) &&& 31)) &&& (1 : Int32)) = 0 ↔ fi.testBit y = false) := by
        intro y hy
        rw [i_tb (by omega) hy]
        cases fi.testBit y <;> decide +kernel
      have lt : ∀ d, (W d + m * cR k (x + 1) fi dn d) % 2147483647 < 2147483647 := fun d => Nat.mod_lt _ (by omega)
      -- the last one: down
      have down : ∀ (W' : Nat → Nat) (z1 : tq_S), (∀ d, d < 64 → tq_al z1 55 d = lN (W' d) ∧ W' d < 2147483647) → fr [(3, 55)] z z1 → (∀ d, d < 64 → (W' d + m * cR k (x + 1) fi (dn ||| 2 ^ x) d) % 2147483647 = (W d + m * cR (k + 1) x fi dn d) % 2147483647) → wc_X12_stripRow_80 (wm_X12_stripRow f) Q (nI w) (nI x) (nI fi) (nI dn) (lN m) z1 := by
        intro W' z1 hW' f1 he
        have dlt : dn ||| 2 ^ x < 2 ^ (x + 1) := Nat.or_lt_two_pow (by rw [Nat.pow_succ]; omega) (Nat.pow_lt_pow_right (by omega) (by omega))
        unfold wc_X12_stripRow_80
        rw [i_1, i_add, ← i_1, i_pw (by omega), i_or]
        refine ih k (x + 1) fi _ W' m z1 _ (by omega) (by omega) hw hfi dlt hW' hm (fun z2 f2 a2 => ⟨rfl, ?_⟩)
        exact K z2 (fr_t f1 f2) (fun d hd => by rw [a2 d hd, he d hd])
      rw [b1 x (by omega)]
      refine ⟨fun h1 => ?_, fun h1 => ?_⟩
      · rw [i_1, i_add, i_le (by omega) (by omega), ← i_1]
        refine ⟨fun h2 => ?_, fun h2 => ?_⟩
        · have : k = 0 := by omega
          subst this
          refine down W z hW fr_r (fun d hd => ?_)
          rw [cR_1, if_neg h1]; rfl
        · obtain ⟨k, rfl⟩ : ∃ k', k = k' + 1 := ⟨k - 1, by omega⟩
          have ce : ∀ d, cR (k + 2) x fi dn d = (if fi.testBit (x + 1) = true then 0 else cR k (x + 2) fi dn d) + cR (k + 1) (x + 1) fi (dn ||| 2 ^ x) d := by
            intro d
            show (if fi.testBit x = true then _ else _) = _
            rw [if_neg h1]
          rw [b0 (x + 1) (by omega)]
          refine ⟨fun h3 => ?_, fun h3 => ?_⟩
          · have h3 : fi.testBit (x + 1) = true := by simpa using h3
            refine down W z hW fr_r (fun d hd => ?_)
            rw [ce, if_pos h3, Nat.zero_add]
          · rw [i_2, i_add]
            refine ih k (x + 2) fi dn W m z _ (by omega) (by omega) hw hfi ?_ hW hm (fun z2 f2 a2 => ⟨rfl, ?_⟩)
            · exact Nat.lt_of_lt_of_le hdn (Nat.pow_le_pow_right (by omega) (by omega))
            · refine down (fun d => (W d + m * cR k (x + 2) fi dn d) % 2147483647) z2 (fun d hd => ⟨a2 d hd, Nat.mod_lt _ (by omega)⟩) f2 (fun d hd => ?_)
              rw [ce, if_neg (by rw [h3]; exact Bool.false_ne_true)]
              exact md_a _ _ _ _ _
      · rw [i_1, i_add]
        refine ih k (x + 1) fi dn W m z _ (by omega) (by omega) hw hfi ?_ hW hm (fun z2 f2 a2 => ⟨rfl, ?_⟩)
        · exact Nat.lt_of_lt_of_le hdn (Nat.pow_le_pow_right (by omega) (by omega))
        · exact K z2 f2 (fun d hd => by rw [a2 d hd, cR_t h1])
    · have : k = 0 := by omega
      subst this
      have dn64 : dn < 64 := by omega
      obtain ⟨w1, w2⟩ := hW dn dn64
      rw [i_cl (by omega), w1, l_add, show (2147483647 : Int64) = lN 2147483647 from rfl, pk_lRem (by omega) (by omega) (by omega)]
      refine ⟨i_in (by omega) (by omega), i_in (by omega) (by omega), fun z3 e3 => K z3 (by rw [e3]; exact fr_sal (by decide) fr_r) (fun d hd => ?_)⟩
      rw [e3, rw_ale, rw_updL]
      have c0 : cR 0 x fi dn d = if d = dn then 1 else 0 := rfl
      rw [c0]
      by_cases q : d = dn
      · rw [if_pos q, if_pos q, q, Nat.mul_one]
      · rw [if_neg q, if_neg q, Nat.mul_zero, Nat.add_zero, Nat.mod_eq_of_lt (hW d hd).2]; exact (hW d hd).1
theorem cR_hi : ∀ k x fi dn d, dn < 2 ^ x → 2 ^ (x + k) ≤ d → cR k x fi dn d = 0
  | 0, x, fi, dn, d, h1, h2 => by
    show (if d = dn then 1 else 0) = 0
    rw [if_neg (by rw [Nat.add_zero] at h2; omega)]
  | 1, x, fi, dn, d, h1, h2 => by
    rw [Nat.pow_succ] at h2
    have h3 : dn ||| 2 ^ x < 2 ^ (x + 1) := Nat.or_lt_two_pow (by rw [Nat.pow_succ]; omega) (Nat.pow_lt_pow_right (by omega) (by omega))
    rw [Nat.pow_succ] at h3
    rw [cR_1]
    split
    · rw [if_neg (by omega)]
    · rw [if_neg (by omega)]
  | k + 2, x, fi, dn, d, h1, h2 => by
    have h3 : dn ||| 2 ^ x < 2 ^ (x + 1) := Nat.or_lt_two_pow (by rw [Nat.pow_succ]; omega) (Nat.pow_lt_pow_right (by omega) (by omega))
    have h4 : dn < 2 ^ (x + 1) := by rw [Nat.pow_succ]; omega
    have h5 : dn < 2 ^ (x + 2) := Nat.lt_trans h4 (Nat.pow_lt_pow_right (by omega) (by omega))
    have e1 : x + (k + 2) = x + 1 + (k + 1) := by omega
    have e2 : x + (k + 2) = x + 2 + k := by omega
    show (if fi.testBit x = true then cR (k + 1) (x + 1) fi dn d else (if fi.testBit (x + 1) = true then 0 else cR k (x + 2) fi dn d) + cR (k + 1) (x + 1) fi (dn ||| 2 ^ x) d) = 0
    rw [cR_hi (k + 1) (x + 1) fi dn d h4 (by rw [← e1]; exact h2), cR_hi (k + 1) (x + 1) fi _ d h3 (by rw [← e1]; exact h2), cR_hi k (x + 2) fi dn d h5 (by rw [← e2]; exact h2)]
    split
    · rfl
    · split <;> rfl
def tW (w n d : Nat) : Nat := (tL w n).getD d 0
theorem tW_0 {d : Nat} (hd : d < 2 ^ w) : tW w 0 d = if d = 0 then 1 else 0 := by
  show ((List.range (2 ^ w)).map (fun d => if d = 0 then 1 else 0)).getD d 0 = _
  rw [gd_range, if_pos hd]
theorem tW_s {n d : Nat} (hd : d < 2 ^ w) : tW w (n + 1) d = fb_sm (fun m => tW w n m * cR w 0 m 0 d) (2 ^ w) % 2147483647 := by
  show ((List.range (2 ^ w)).map (fun d => fb_sm (fun m => (tL w n).getD m 0 * cR w 0 m 0 d) (2 ^ w) % 2147483647)).getD d 0 = _
  rw [gd_range, if_pos hd]; rfl
theorem tW_lt {n d : Nat} (hd : d < 2 ^ w) : tW w n d < 2147483647 := by
  cases n with
  | zero => rw [tW_0 hd]; split <;> omega
  | succ n => rw [tW_s hd]; exact Nat.mod_lt _ (by omega)
def FV : List (Nat × Nat) := [(3, 54), (3, 55), (3, 78)]
theorem trm_at {n : Nat} (hn : n < 48) : (trm w).getD n 0 = tW w n 0 := by
  unfold trm
  rw [gd_range, if_pos hn]; rfl
theorem sq_tellTerms (hw : wd w) (k : ∀ z', fr FV z z' → (∀ n, n < 48 → tq_al z' 78 n = lN ((trm w).getD n 0)) → Q (.inl none) z') : wm_X12_tellTerms (nI w) z Q := by
  have hb := wd_b hw
  have p64 : 2 ^ w ≤ 64 := by
    have : (2 : Nat) ^ w ≤ 2 ^ 6 := Nat.pow_le_pow_right (by omega) hb.2
    omega
  have p1 : 0 < 2 ^ w := Nat.pow_pos (by omega)
  -- the terms, one after the other
  have main : ∀ z1, fr FV z z1 → (∀ d, d < 64 → tq_al z1 54 d = lN (if d < 2 ^ w then tW w 0 d else 0)) → wc_X12_tellTerms_29 Q (nI w) z1 := by
    intro z1 f1 a1
    unfold wc_X12_tellTerms_29 wc_X12_tellTerms_31
    refine lp_inv (fun n s => ∃ z', s = (nI n, z') ∧ fr FV z z' ∧ (∀ d, d < 64 → tq_al z' 54 d = lN (if d < 2 ^ w then tW w n d else 0)) ∧ ∀ j, j < n → tq_al z' 78 j = lN (tW w j 0)) 48 ?_ ⟨z1, rfl, f1, a1, fun j hj => by omega⟩
    rintro n s hn ⟨z2, rfl, f2, a2, t2⟩ B hB
    simp only
    unfold wb_X12_tellTerms_31
    rw [i_48, i_le (by omega) (by omega)]
    refine ⟨fun h1 => k z2 f2 (fun j hj => by rw [t2 j (by omega), trm_at hj]), fun h1 => ⟨i_in (by omega) (by omega), fun z3 e3 => ?_⟩⟩
    have hB := hB (by omega)
    have c0 : Int32.toNatClampNeg 0 = 0 := rfl
    rw [c0, i_cl (by omega), a2 0 (by omega), if_pos p1] at e3
    have f3 : fr FV z z3 := by rw [e3]; exact fr_sal (by decide) f2
    have a3 : ∀ d, d < 64 → tq_al z3 54 d = lN (if d < 2 ^ w then tW w n d else 0) := by
      intro d hd; rw [e3, rw_aln (by omega)]; exact a2 d hd
    have t3 : ∀ j, j < n + 1 → tq_al z3 78 j = lN (tW w j 0) := by
      intro j hj
      rw [e3, rw_ale, rw_updL]
      by_cases q : j = n
      · rw [if_pos q, q]
      · rw [if_neg q]; exact t2 j (by omega)
    clear e3
    -- all at 0 first
    unfold wc_X12_tellTerms_51
    refine lp_inv (fun x s => ∃ z', s = (nI x, z') ∧ fr [(3, 55)] z3 z' ∧ ∀ d, d < x → tq_al z' 55 d = 0) 64 ?_ ⟨z3, rfl, fr_r, fun d hd => by omega⟩
    rintro x s hx ⟨z4, rfl, f4, a4⟩ B2 hB2
    simp only
    unfold wb_X12_tellTerms_51
    rw [i_64, i_le (by omega) (by omega)]
    refine ⟨fun h2 => ?_, fun h2 => ⟨i_in (by omega) (by omega), fun z5 e5 v e6 => ?_⟩⟩
    rotate_left
    · rw [i_1, i_add] at e6
      refine hB2 (by omega) _ ⟨z5, by rw [e6], by rw [e5]; exact fr_sal (by decide) f4, fun d hd => ?_⟩
      rw [e5, rw_ale, rw_updL, i_cl (by omega)]
      by_cases q : d = x
      · rw [if_pos q]
      · rw [if_neg q]; exact a4 d (by omega)
    have : x = 64 := by omega
    subst this
    clear hB2
    unfold wc_X12_tellTerms_70 wc_X12_tellTerms_72
    refine lp_inv (fun m s => ∃ z', s = (nI m, z') ∧ fr [(3, 55)] z3 z' ∧ ∀ d, d < 64 → tq_al z' 55 d = lN (fb_sm (fun m => tW w n m * cR w 0 m 0 d) m % 2147483647)) (2 ^ w) ?_ ⟨z4, rfl, f4, fun d hd => by rw [a4 d hd]; rfl⟩
    rintro m s hm ⟨z5, rfl, f5, a5⟩ B2 hB2
    simp only
    unfold wb_X12_tellTerms_72
    rw [i_pw (by omega), i_le (by omega) (by omega)]
    refine ⟨fun h3 => ?_, fun h3 => ⟨i_in (by omega) (by omega), ?_⟩⟩
    · have : m = 2 ^ w := by omega
      subst this
      clear hB2
      unfold wc_X12_tellTerms_110 wc_X12_tellTerms_112
      have tail : ∀ d, d < 64 → tq_al z5 55 d = lN (if d < 2 ^ w then tW w (n + 1) d else 0) := by
        intro d hd
        rw [a5 d hd]
        by_cases q : d < 2 ^ w
        · rw [if_pos q, tW_s q]
        · rw [if_neg q]
          have : fb_sm (fun m => tW w n m * cR w 0 m 0 d) (2 ^ w) = fb_sm (fun _ => 0) (2 ^ w) := fb_sm_cong (fun m hm => by rw [cR_hi w 0 m 0 d (by decide) (by rw [Nat.zero_add]; omega), Nat.mul_zero])
          rw [this, fb_sm_0]
      refine lp_inv (fun x s => ∃ z', s = (nI x, z') ∧ fr FV z z' ∧ (∀ d, d < 64 → tq_al z' 55 d = lN (if d < 2 ^ w then tW w (n + 1) d else 0)) ∧ (∀ j, j < n + 1 → tq_al z' 78 j = lN (tW w j 0)) ∧ ∀ d, d < x → tq_al z' 54 d = lN (if d < 2 ^ w then tW w (n + 1) d else 0)) 64 ?_ ⟨z5, rfl, fr_t f3 (fr_m (by decide) f5), tail, fun j hj => by rw [fr_al f5 (by decide)]; exact t3 j hj, fun d hd => by omega⟩
      rintro x s hx ⟨z6, rfl, f6, a6, t6, b6⟩ B2 hB2
      simp only
      unfold wb_X12_tellTerms_112
      rw [i_64, i_le (by omega) (by omega)]
      refine ⟨fun h4 => ?_, fun h4 => ⟨i_in (by omega) (by omega), i_in (by omega) (by omega), fun z7 e7 v e8 => ?_⟩⟩
      · unfold wc_X12_tellTerms_136
        intro v e
        rw [i_1, i_add] at e
        exact hB _ ⟨z6, by rw [e], f6, fun d hd => b6 d (by omega), t6⟩
      · rw [i_1, i_add] at e8
        refine hB2 (by omega) _ ⟨z7, by rw [e8], by rw [e7]; exact fr_sal (by decide) f6, fun d hd => ?_, fun j hj => ?_, fun d hd => ?_⟩
        · rw [e7, rw_aln (by omega)]; exact a6 d hd
        · rw [e7, rw_aln (by omega)]; exact t6 j hj
        · rw [e7, rw_ale, rw_updL, i_cl (by omega)]
          by_cases q : d = x
          · rw [if_pos q, a6 x (by omega), q]
          · rw [if_neg q]; exact b6 d (by omega)
    · have mlt : m < 2 ^ w := by omega
      have tl := tW_lt (w := w) (n := n) mlt
      have rd : tq_al z5 54 m = lN (tW w n m) := by rw [fr_al f5 (by decide), a3 m (by omega), if_pos mlt]
      have fin : ∀ z6, fr [(3, 55)] z3 z6 → (∀ d, d < 64 → tq_al z6 55 d = lN (fb_sm (fun m => tW w n m * cR w 0 m 0 d) (m + 1) % 2147483647)) → wc_X12_tellTerms_104 (fun b2 z => B (b2, z)) (fun b3 z => B2 (b3, z)) Q (nI w) (nI n) (nI m) z6 := by
        intro z6 f6 a6
        unfold wc_X12_tellTerms_104
        intro v e
        rw [i_1, i_add] at e
        exact hB2 (by omega) _ ⟨z6, by rw [e], f6, a6⟩
      have ss : ∀ d, fb_sm (fun m => tW w n m * cR w 0 m 0 d) (m + 1) = fb_sm (fun m => tW w n m * cR w 0 m 0 d) m + tW w n m * cR w 0 m 0 d := fun d => rfl
      rw [i_cl (by omega), rd, l_le0 (by omega)]
      refine ⟨fun h4 => fin z5 f5 (fun d hd => by rw [ss, h4, Nat.zero_mul, Nat.add_zero]; exact a5 d hd), fun h4 => ⟨i_in (by omega) (by omega), ?_⟩⟩
      refine sq_stripRow 40 w 0 m 0 (fun d => fb_sm (fun m => tW w n m * cR w 0 m 0 d) m % 2147483647) (tW w n m) z5 _ (by omega) (by omega) hb.2 (by omega) (by decide) (fun d hd => ⟨a5 d hd, Nat.mod_lt _ (by omega)⟩) tl (fun z6 f6 a6 => ⟨rfl, fin z6 (fr_t f5 f6) (fun d hd => ?_)⟩)
      rw [a6 d hd, ss, Nat.mod_add_mod]
  unfold wm_X12_tellTerms wc_X12_tellTerms_2
  refine lp_inv (fun x s => ∃ z', s = (nI x, z') ∧ fr FV z z' ∧ ∀ d, d < x → tq_al z' 54 d = lN (if d < 2 ^ w then tW w 0 d else 0)) 64 ?_ ⟨z, rfl, fr_r, fun d hd => by omega⟩
  rintro x s hx ⟨z1, rfl, f1, a1⟩ B hB
  simp only
  unfold wb_X12_tellTerms_2
  rw [i_64, i_le (by omega) (by omega)]
  refine ⟨fun h1 => main z1 f1 (fun d hd => a1 d (by omega)), fun h1 => ?_⟩
  have fin : ∀ v : Int64, v = lN (if x < 2 ^ w then tW w 0 x else 0) → wc_X12_tellTerms_22 (fun b2 z => B (b2, z)) Q (nI w) (nI x) v (nI x) z1 := by
    intro v ev
    unfold wc_X12_tellTerms_22
    refine ⟨i_in (by omega) (by omega), fun z2 e2 v2 e3 => ?_⟩
    rw [i_1, i_add] at e3
    refine hB (by omega) _ ⟨z2, by rw [e3], by rw [e2]; exact fr_sal (by decide) f1, fun d hd => ?_⟩
    rw [e2, rw_ale, rw_updL, i_cl (by omega)]
    by_cases q : d = x
    · rw [if_pos q, ev, q]
    · rw [if_neg q]; exact a1 d (by omega)
  rw [i_0, i_eq (by omega) (by omega)]
  refine ⟨fun q => fin _ ?_, fun q => fin _ ?_⟩
  · by_cases q2 : x < 2 ^ w
    · rw [if_pos q2, tW_0 q2, if_neg q]; rfl
    · rw [if_neg q2]; rfl
  · rw [q, if_pos p1, tW_0 p1]; rfl
end RTERMS
