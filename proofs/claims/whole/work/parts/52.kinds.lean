/-! ===== bits of a long by taking the lowest away; typed cells ===== -/
theorem ct_pred (c : Int64) {i : Nat} (hi : i < 64) : ct (c - 1) i = !ct (-c) i := by
  have h1 := BitVec.neg_eq_not_add (-c.toBitVec)
  rw [BitVec.neg_neg] at h1
  have h : c.toBitVec - 1#64 = ~~~(-c.toBitVec) := by
    calc c.toBitVec - 1#64 = (~~~(-c.toBitVec) + 1#64) - 1#64 := by rw [← h1]
      _ = ~~~(-c.toBitVec) := BitVec.add_sub_cancel _ _
  show (c.toBitVec - 1#64).getLsbD i = !(-c.toBitVec).getLsbD i
  rw [h, BitVec.getLsbD_not, decide_eq_true hi, Bool.true_and]
theorem ct_first {f : Nat → Bool} : ∀ i, f i = true → ∃ k, k ≤ i ∧ f k = true ∧ ∀ j, j < k → f j = false := by
  intro i
  induction i using Nat.strongRecOn with
  | _ i ih =>
    intro hi
    by_cases q : ∃ j, j < i ∧ f j = true
    · obtain ⟨j, h1, h2⟩ := q
      obtain ⟨k, a, b, c⟩ := ih j h1 h2
      exact ⟨k, by omega, b, c⟩
    · exact ⟨i, Nat.le_refl _, hi, fun j hj => by
        cases e : f j
        · rfl
        · exact absurd ⟨j, hj, e⟩ q⟩
theorem ct_drop {v : Int64} (hv : v ≠ 0) : fb_ct (ct (v &&& (v - 1))) 64 + 1 = fb_ct (ct v) 64 := by
  have ex : ∃ i, i < 64 ∧ ct v i = true := by
    refine Classical.byContradiction fun hn => hv ?_
    refine Int64.toBitVec_inj.mp (BitVec.eq_of_getLsbD_eq (fun i hi => ?_))
    have : ct v i = false := by
      cases e : ct v i
      · rfl
      · exact absurd ⟨i, hi, e⟩ hn
    show ct v i = (0#64).getLsbD i
    rw [this]; simp
  obtain ⟨i, hi, e⟩ := ex
  obtain ⟨k, k1, k2, k3⟩ := ct_first (f := ct v) i e
  have e1 : fb_ct (ct (v &&& (v - 1))) 64 = fb_ct (fun j => if j = k then false else ct v j) 64 := by
    refine fb_ct_cong (fun j hj => ?_)
    have low := ct_low v j
    rw [ct_and] at low
    rw [ct_and, ct_pred v hj]
    by_cases q : j = k
    · subst q
      rw [if_pos rfl]
      rw [k2, decide_eq_true k3] at low
      rw [k2]
      simp only [Bool.true_and] at low ⊢
      rw [low]; rfl
    · rw [if_neg q]
      cases hc : ct v j
      · rfl
      · rw [hc] at low
        have : ¬ ∀ l, l < j → ct v l = false := fun u => by
          by_cases q2 : k < j
          · rw [u k q2] at k2; cases k2
          · rw [k3 j (by omega)] at hc; cases hc
        rw [decide_eq_false this] at low
        simp only [Bool.true_and] at low ⊢
        rw [low]; rfl
  have u := fb_ct_upd (ct v) false (by omega : k < 64)
  have v2 : (if ct v k = true then 1 else 0) = 1 := by rw [k2]; rfl
  rw [v2] at u
  rw [e1]
  exact u
section KINDS
variable {z : tq_S} {Q : tq_O → tq_S → Prop}
theorem sq_bitsL {c : Int64} (k : Q (.inl (some (.int (nI (fb_ct (ct c) 64))))) z) : wm_X12_bits c z Q := by
  have b64 := fb_ct_le (ct c) 64
  unfold wm_X12_bits wc_X12_bits_4
  refine lp_inv (fun k s => ∃ v : Int64, s = (nI k, v, z) ∧ fb_ct (ct v) 64 + k = fb_ct (ct c) 64) (fb_ct (ct c) 64) ?_ ⟨c, rfl, rfl⟩
  rintro j s hj ⟨v, rfl, e⟩ B hB
  simp only
  unfold wb_X12_bits_4
  refine ⟨fun h1 => ?_, fun h1 => ?_⟩
  · have : fb_ct (ct v) 64 = 0 := by
      rw [h1]
      have e0 : fb_ct (ct (0 : Int64)) 64 = fb_ct (fun _ => false) 64 := fb_ct_cong (fun i _ => by
        show (0#64).getLsbD i = false
        simp)
      rw [e0]; decide +kernel
    have : j = fb_ct (ct c) 64 := by omega
    rw [this]; exact k
  · have q := ct_drop h1
    intro v1 e1 v2 e2
    rw [i_1, i_add] at e1
    subst e1
    subst e2
    exact hB (by omega) _ ⟨_, rfl, by omega⟩
theorem sc_clear (k : ∀ z', fr [(1, 1476), (0, 1477), (0, 1478)] z z' → tq_fl z' 1476 = 0 → tq_fi z' 1477 = 0 → tq_fi z' 1478 = tq_fi z 1478 + 1 → Q (.inl (some (.int (tq_fi z 1477)))) z') : wm_X11_clear z Q := by
  unfold wm_X11_clear wm_X8_dropAll
  intro v1 e1 z1 q1 z2 q2 z3 q3
  subst e1
  refine ⟨rfl, ?_⟩
  have f1 : fr [(1, 1476), (0, 1477), (0, 1478)] z z1 := by rw [q1]; exact fr_sfl (by decide) fr_r
  have f2 : fr [(1, 1476), (0, 1477), (0, 1478)] z z2 := by rw [q2]; exact fr_sfi (by decide) f1
  have f3 : fr [(1, 1476), (0, 1477), (0, 1478)] z z3 := by rw [q3]; exact fr_sfi (by decide) f2
  refine k z3 f3 ?_ ?_ ?_
  · rw [q3, q2, q1]; rfl
  · rw [q3, q2]; rfl
  · rw [q3, q2, q1]; rfl
theorem sr_clear (k : ∀ z', fr [(0, 3264), (0, 3290), (1, 3289)] z z' → tq_fi z' 3264 = 0 → tq_fl z' 3289 = 0 → tq_fi z' 3290 = 0 → Q (.inl (some (.int (tq_fi z 3290)))) z') : wm_X12_clear z Q := by
  unfold wm_X12_clear
  intro z1 q1 v2 e2 z3 q3 z4 q4
  have f1 : fr [(0, 3264), (0, 3290), (1, 3289)] z z1 := by rw [q1]; exact fr_sfi (by decide) fr_r
  have f3 : fr [(0, 3264), (0, 3290), (1, 3289)] z z3 := by rw [q3]; exact fr_sfi (by decide) f1
  have f4 : fr [(0, 3264), (0, 3290), (1, 3289)] z z4 := by rw [q4]; exact fr_sfl (by decide) f3
  have e : v2 = tq_fi z 3290 := by rw [e2, q1]; rfl
  rw [e]
  refine k z4 f4 ?_ ?_ ?_
  · rw [q4, q3, q1]; rfl
  · rw [q4]; rfl
  · rw [q4, q3]; rfl
/-- the cell of a piece that a call names -/
def pcc (X Y : Int32) (x y : Nat) : Prop := x < 6 ∧ y < 6 ∧ X = nI x ∧ Y = nI y
theorem fi_5 {a : Int32} : fi (0 : Int32).toInt (5 : Int32).toInt a = true ↔ ∃ n : Nat, n < 6 ∧ a = nI n := by
  unfold fi
  have h8 : (5 : Int32).toInt = 5 := by decide +kernel
  rw [i_z, h8]
  simp only [Bool.and_eq_true, decide_eq_true_eq]
  constructor
  · rintro ⟨q1, q2⟩
    obtain ⟨n, hn, rfl⟩ := i_ex (x := a) (by rw [nu_lt, i_z]; omega)
    rw [i_ti hn] at q2
    exact ⟨n, by omega, rfl⟩
  · rintro ⟨n, hn, rfl⟩
    rw [i_ti (by omega)]
    omega
def pbt (x y : Nat) : Int64 := (1 : Int64) <<< ((Int32.toInt64 (nI (6 * y + x))) &&& 63)
theorem sc_pieceCell {X Y : Int32} {c : Int64} (hc : tq_fl z 1476 = c) (k0 : (∀ x y, ¬ pcc X Y x y) → Q (.inr 1) z) (k1 : ∀ x y, pcc X Y x y → c &&& pbt x y = 0 → 6 ≤ fb_ct (ct c) 64 → Q (.inr 2) z) (k2 : ∀ x y, pcc X Y x y → (c &&& pbt x y ≠ 0 ∨ fb_ct (ct c) 64 < 6) → ∀ z', fr [(1, 1476)] z z' → tq_fl z' 1476 = c ||| pbt x y → Q (.inl (some (.int (nI (fb_ct (ct (c ||| pbt x y)) 64))))) z') : wm_X11_pieceCell X Y z Q := by
  have b64 := fb_ct_le (ct c) 64
  unfold wm_X11_pieceCell
  refine sq_isFrom ⟨_, rfl, fun h1 => ?_, fun h1 => ?_⟩
  · rw [bi_0] at h1
    unfold wc_X11_pieceCell_18
    refine k0 (fun x y u => ?_)
    rw [fi_5.mpr ⟨x, u.1, u.2.2.1⟩] at h1; cases h1
  · rw [bi_n, fi_5] at h1
    obtain ⟨x, hx, rfl⟩ := h1
    refine sq_isFrom ⟨_, rfl, fun h2 => ?_, fun h2 => ?_⟩
    · rw [bi_n, fi_5] at h2
      obtain ⟨y, hy, rfl⟩ := h2
      have hp : pcc (nI x) (nI y) x y := ⟨hx, hy, rfl, rfl⟩
      have yes : (c &&& pbt x y ≠ 0 ∨ fb_ct (ct c) 64 < 6) → wm_X8_type (nI x) (nI y) z (tq_wi fun r8 z7 => Q (.inl (some (.int r8))) z7) := by
        intro u
        unfold wm_X8_type wm_X8_bit
        rw [i_6, pk_mul, i_add]
        refine ⟨_, rfl, fun z3 e3 => ?_⟩
        rw [hc] at e3
        have e3' : tq_fl z3 1476 = c ||| pbt x y := by rw [e3]; rfl
        refine sp_bc ⟨_, rfl, ⟨_, rfl, ?_⟩⟩
        show Q (.inl (some (.int (nI (fb_ct (ct (tq_fl z3 1476)) 64))))) z3
        rw [e3']
        exact k2 x y hp u z3 (by rw [e3]; exact fr_sfl (by decide) fr_r) e3'
      unfold wm_X8_canType wm_X8_bit
      rw [i_6, pk_mul, i_add, hc]
      refine ⟨_, rfl, fun h3 => ⟨_, rfl, fun _ => yes (Or.inl h3), fun h => absurd h (by decide +kernel)⟩, fun h3 => ?_⟩
      refine sp_bc ⟨_, rfl, fun h4 => ⟨_, rfl, fun h => absurd rfl h, fun _ => ?_⟩, fun h4 => ⟨_, rfl, fun _ => yes (Or.inr ?_), fun h => absurd h (by decide +kernel)⟩⟩
      · have h4' : nI 6 ≤ nI (fb_ct (ct c) 64) := by rw [← hc]; exact h4
        rw [i_le (by omega) (by omega)] at h4'
        exact k1 x y hp h3 h4'
      · have h4' : ¬ nI 6 ≤ nI (fb_ct (ct c) 64) := by rw [← hc]; exact h4
        rw [i_le (by omega) (by omega)] at h4'
        omega
    · rw [bi_0] at h2
      unfold wc_X11_pieceCell_18
      refine k0 (fun x y u => ?_)
      rw [fi_5.mpr ⟨y, u.2.1, u.2.2.2⟩] at h2; cases h2
theorem sr_pieceCell {X Y : Int32} {c : Int64} (hc : tq_fl z 3289 = c) (h6 : fb_ct (ct c) 64 ≤ 6) (k0 : (∀ x y, ¬ pcc X Y x y) → ∀ z', fr [(0, 3264)] z z' → tq_fi z' 3264 = 1 → Q (.inl (some (.int 0))) z') (k1 : ∀ x y, pcc X Y x y → c &&& pbt x y = 0 → 6 ≤ fb_ct (ct c) 64 → ∀ z', fr [(0, 3264)] z z' → tq_fi z' 3264 = 2 → Q (.inl (some (.int 0))) z') (k2 : ∀ x y, pcc X Y x y → (c &&& pbt x y ≠ 0 ∨ fb_ct (ct c) 64 < 6) → ∀ z', fr [(0, 3264), (1, 3289)] z z' → tq_fi z' 3264 = 0 → tq_fl z' 3289 = c ||| pbt x y → Q (.inl (some (.int (nI (fb_ct (ct (c ||| pbt x y)) 64))))) z') : wm_X12_pieceCell X Y z Q := by
  have no : (∀ x y, ¬ pcc X Y x y) → wc_X12_pieceCell_19 Q X Y z := by
    intro u
    unfold wc_X12_pieceCell_19 wc_X12_pieceCell_24
    exact sq_isThrown (b := true) (a := 1) (fun z1 f1 e1 => ⟨_, rfl, fun h3 => (by cases h3), fun _ => k0 u z1 f1 e1⟩)
  unfold wm_X12_pieceCell
  refine sq_isIn ⟨_, rfl, fun h1 => ?_, fun h1 => ?_⟩
  · rw [bi_0] at h1
    refine no (fun x y u => ?_)
    rw [fi_5.mpr ⟨x, u.1, u.2.2.1⟩] at h1; cases h1
  · rw [bi_n, fi_5] at h1
    obtain ⟨x, hx, rfl⟩ := h1
    refine sq_isIn ⟨_, rfl, fun h2 => ?_, fun h2 => ?_⟩
    · rw [bi_n, fi_5] at h2
      obtain ⟨y, hy, rfl⟩ := h2
      have hp : pcc (nI x) (nI y) x y := ⟨hx, hy, rfl, rfl⟩
      unfold wc_X12_pieceCell_24
      refine sq_isThrown (b := false) (a := 1) (fun z1 f1 e1 => ⟨_, rfl, fun _ => ?_, fun h3 => absurd rfl h3⟩)
      have c1 : tq_fl z1 3289 = c := (fr_fl f1 (by decide)).trans hc
      intro v3 e3
      have e3' : v3 = pbt x y := by
        rw [e3]; unfold pbt
        show (1 : Int64) <<< ((Int32.toInt64 ((6 : Int32) * nI y + nI x)) &&& 63) = _
        rw [i_6, pk_mul, i_add]
      subst e3'
      have yes : (c &&& pbt x y ≠ 0 ∨ fb_ct (ct c) 64 < 6) → wc_X12_pieceCell_70 Q (pbt x y) z1 := by
        intro u
        unfold wc_X12_pieceCell_70 wc_X12_pieceCell_71
        refine sq_isThrown (b := false) (a := 2) (fun z2 f2 e2 => ⟨_, rfl, fun _ => ?_, fun h3 => absurd rfl h3⟩)
        intro z4 e4
        have c4 : tq_fl z4 3289 = c ||| pbt x y := by rw [e4, fr_fl (k := 3289) f2 (by decide), c1]; rfl
        have f4 : fr [(0, 3264), (1, 3289)] z z4 := by rw [e4]; exact fr_sfl (by decide) (fr_t (fr_m (by decide) f1) (fr_m (by decide) f2))
        refine sq_bitsL ⟨_, rfl, ?_⟩
        show Q (.inl (some (.int (nI (fb_ct (ct (tq_fl z4 3289)) 64))))) z4
        rw [c4]
        exact k2 x y hp u z4 f4 (by rw [e4]; exact e2) c4
      rw [c1]
      refine ⟨fun h3 => yes (Or.inl h3), fun h3 => ?_⟩
      refine sq_bitsL ⟨_, rfl, fun h4 => yes (Or.inr ?_), fun h4 => ?_⟩
      · have h4' : ¬ nI (fb_ct (ct c) 64) = nI 6 := h4
        rw [i_eq (by omega) (by omega)] at h4'
        omega
      · have h4' : nI (fb_ct (ct c) 64) = nI 6 := h4
        rw [i_eq (by omega) (by omega)] at h4'
        unfold wc_X12_pieceCell_71
        exact sq_isThrown (b := true) (a := 2) (fun z2 f2 e2 => ⟨_, rfl, fun h3 => (by cases h3), fun _ => k1 x y hp h3 (by omega) z2 (fr_t f1 f2) e2⟩)
    · rw [bi_0] at h2
      refine no (fun x y u => ?_)
      rw [fi_5.mpr ⟨y, u.2.1, u.2.2.2⟩] at h2; cases h2
end KINDS
