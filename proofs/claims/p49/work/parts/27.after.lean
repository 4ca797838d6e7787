/-! ===== the bits of an int ===== -/
def ib (a : Int32) (i : Nat) : Bool := a.toBitVec.getLsbD i
theorem ib_ext {a b : Int32} (h : ∀ i, i < 32 → ib a i = ib b i) : a = b := Int32.toBitVec.inj (BitVec.eq_of_getLsbD_eq h)
theorem ib_and (a b : Int32) (i : Nat) : ib (a &&& b) i = (ib a i && ib b i) := by
  show (a.toBitVec &&& b.toBitVec).getLsbD i = _
  rw [BitVec.getLsbD_and]; rfl
theorem ib_xor (a b : Int32) (i : Nat) : ib (a ^^^ b) i = (ib a i ^^ ib b i) := by
  show (a.toBitVec ^^^ b.toBitVec).getLsbD i = _
  rw [BitVec.getLsbD_xor]; rfl
theorem ib_n (n i : Nat) : ib (nI n) i = (decide (i < 32) && n.testBit i) := by
  show (BitVec.ofNat 32 n).getLsbD i = _
  rw [BitVec.getLsbD_ofNat]
theorem ib_0 (i : Nat) : ib (0 : Int32) i = false := by
  show (0#32).getLsbD i = false
  simp
theorem ib_m1 (i : Nat) : ib (-1 : Int32) i = decide (i < 32) := by
  show (BitVec.allOnes 32).getLsbD i = _
  exact BitVec.getLsbD_allOnes
theorem ib_z {a : Int32} : a = 0 ↔ ∀ i, i < 32 → ib a i = false := ⟨fun h i _ => by rw [h, ib_0], fun h => ib_ext fun i hi => by rw [h i hi, ib_0]⟩
theorem ib_t {a : Int32} {k : Nat} (hk : k < 32) : (a &&& nI (2 ^ k)) = 0 ↔ ib a k = false := by
  rw [ib_z]
  constructor
  · intro h
    have := h k hk
    rw [ib_and, ib_n, Nat.testBit_two_pow, decide_eq_true hk, decide_eq_true (rfl : k = k)] at this
    simpa using this
  · intro h i hi
    rw [ib_and, ib_n, Nat.testBit_two_pow]
    by_cases e : k = i
    · subst e; rw [h]; rfl
    · rw [decide_eq_false e]; simp
theorem ib_l (c : Int64) (i : Nat) (hi : i < 32) : ib (Int64.toInt32 c) i = ct c i := by
  show (c.toBitVec.signExtend 32).getLsbD i = _
  rw [BitVec.signExtend_eq_setWidth_of_le _ (by omega), BitVec.getLsbD_setWidth, decide_eq_true hi, Bool.true_and]; rfl
theorem ib_su : ∀ k : Fin 32, (((Int32.toUInt32 (nI k.val)) &&& Int32.toUInt32 31).toBitVec % 32).toNat = k.val := by decide +kernel
theorem ib_shr (a : Int32) {k : Nat} (i : Nat) (hk : k < 32) : ib (((Int32.toUInt32 a) >>> ((Int32.toUInt32 (nI k)) &&& Int32.toUInt32 31)).toInt32) i = ib a (k + i) := by
  show (a.toBitVec >>> (((Int32.toUInt32 (nI k)) &&& Int32.toUInt32 31).toBitVec % 32)).getLsbD i = _
  rw [BitVec.ushiftRight_eq', BitVec.getLsbD_ushiftRight, ib_su ⟨k, hk⟩]; rfl
theorem i_p2 {a b : Nat} (ha : a < 31) (hb : b < 31) : nI (2 ^ a) = nI (2 ^ b) ↔ a = b := by
  have h1 : (2 : Nat) ^ a < 2 ^ 31 := Nat.pow_lt_pow_right (by omega) ha
  have h2 : (2 : Nat) ^ b < 2 ^ 31 := Nat.pow_lt_pow_right (by omega) hb
  rw [i_eq (by omega) (by omega)]
  constructor
  · intro e
    have h3 : (2 ^ a).testBit b = true := by rw [e, Nat.testBit_two_pow]; simp
    rw [Nat.testBit_two_pow] at h3
    exact of_decide_eq_true h3
  · intro e; rw [e]
theorem ib_257 : ∀ i : Fin 32, ib (-257 : Int32) i.val = !decide (i.val = 8) := by decide +kernel
theorem i_clr8 {st : Nat} (h : st < 512) : nI st &&& (-257 : Int32) = nI (bclr st 8) := by
  refine ib_ext (fun i hi => ?_)
  rw [ib_and, ib_n, ib_n, ib_257 ⟨i, hi⟩, bclr_b _ (by omega), decide_eq_true hi]
  by_cases e : i < 9
  · rw [decide_eq_true e]; simp
  · have : st.testBit i = false := Nat.testBit_lt_two_pow (Nat.lt_of_lt_of_le h (Nat.pow_le_pow_right (n := 2) (i := 9) (by omega) (by omega)))
    rw [this]; rfl
theorem i_clr {st x : Nat} (h : st < 512) (hx : x < 9) : nI st &&& (nI (2 ^ x) ^^^ (-1 : Int32)) = nI (bclr st x) := by
  refine ib_ext (fun i hi => ?_)
  rw [ib_and, ib_xor, ib_n, ib_n, ib_n, ib_m1, bclr_b _ hx, Nat.testBit_two_pow, decide_eq_true hi]
  by_cases e : i < 9
  · rw [decide_eq_true e]
    by_cases e2 : x = i
    · subst e2; simp
    · have e3 : ¬ i = x := fun u => e2 u.symm
      rw [decide_eq_false e2, decide_eq_false e3]; simp
  · have : st.testBit i = false := Nat.testBit_lt_two_pow (Nat.lt_of_lt_of_le h (Nat.pow_le_pow_right (n := 2) (i := 9) (by omega) (by omega)))
    rw [this]; rfl
theorem ib_st {st k : Nat} (hk : k < 32) : (nI st &&& nI (2 ^ k)) = 0 ↔ st.testBit k = false := by
  rw [ib_t hk, ib_n, decide_eq_true hk, Bool.true_and]
section AFTER
variable {w h : Nat} {r : Bool} {S : Nat → Bool} {z : tq_S} {Q : tq_O → tq_S → Prop} {x y st way : Nat}
theorem sq_aft (hd : jd w h r S) (hj : jc w h r S z) (hx : x < w) (hy : y < h) (hst : st < 512) (hway : way < 4) (k : Q (.inl (some (.int (bo (af w h r S x y st way))))) z) : wm_X5_after (nI x) (nI y) (nI st) (nI way) z Q := by
  have hw8 := hd.2.1
  have hw1 := hd.1
  have hh8 := hd.2.2.2.1
  unfold wm_X5_after
  rw [i_8, pk_mul, hj.1, i_pw (by omega), i_1, pk_sub hw1, ← i_1, i_pw (by omega)]
  intro v1 e1 v2 e2 v3 e3
  have row : ∀ i, i < 32 → ib v1 i = S (8 * y + i) := fun i hi => by
    rw [e1, ib_l _ _ hi, ct_shr _ _ (by omega), hj.2.2.2]
  rw [e2, e3]
  have way0 : nI way = (0 : Int32) ↔ way = 0 := by rw [i_0]; exact i_eq (by omega) (by omega)
  have way1 : nI way = (1 : Int32) ↔ way = 1 := by rw [i_1]; exact i_eq (by omega) (by omega)
  have way2 : nI way = (2 : Int32) ↔ way = 2 := by rw [i_2]; exact i_eq (by omega) (by omega)
  have way3 : nI way = (3 : Int32) ↔ way = 3 := by rw [i_3]; exact i_eq (by omega) (by omega)
  have x0 : nI x = (0 : Int32) ↔ x = 0 := by rw [i_0]; exact i_eq (by omega) (by omega)
  have c256 : (256 : Int32) = nI (2 ^ 8) := rfl
  have no : af w h r S x y st way = none → Q (.inl (some (.int (-1 : Int32)))) z := fun e => by rw [e] at k; exact k
  have yes : ∀ n, af w h r S x y st way = some n → Q (.inl (some (.int (nI n)))) z := fun n e => by rw [e] at k; exact k
  have t90 : ¬ (x + 1 = w ∧ st.testBit 8 = true) → ∀ b, (b = true ↔ (S (8 * y + x) = true ∧ st.testBit x = false)) → wc_X5_after_90 Q (nI x) (nI y) (nI st) (nI way) v1 (nI (2 ^ x)) (nI (2 ^ (w - 1))) (bi b) z := by
    intro hA b hb
    have hf : af w h r S x y st way = if ¬ (S (8 * y + x) = true ∧ st.testBit x = false) then (if way = 0 then some (bclr st x) else none)
      else if way = 1 then (if x + 1 < w ∧ S (8 * y + (x + 1)) = true ∧ st.testBit (x + 1) = false then some (st ||| 2 ^ (x + 1)) else none)
      else if way = 2 then (if y + 1 < h ∧ S (8 * (y + 1) + x) = true then some (st ||| 2 ^ x) else none)
      else if way = 3 ∧ r = true ∧ x = 0 ∧ S (8 * y + (w - 1)) = true ∧ st.testBit (w - 1) = false then some (st ||| 2 ^ 8) else none := by
      unfold af; rw [if_neg hA]
    unfold wc_X5_after_90
    rw [way1, way2, way0, hj.2.1, hj.2.2.1, x0, i_1, i_add, i_8, ← i_1]
    refine ⟨fun h1 => ?_, fun h1 => ?_⟩
    · rw [bi_n, hb] at h1
      rw [if_neg (fun u => u h1)] at hf
      refine ⟨fun h2 => ⟨fun h3 => ?_, fun h3 => ?_⟩, fun h2 => ?_⟩
      · rw [if_neg h2, if_neg h3] at hf
        have n226 : ¬ (way = 3 ∧ r = true ∧ x = 0 ∧ S (8 * y + (w - 1)) = true ∧ st.testBit (w - 1) = false) → wc_X5_after_226 Q (nI st) (nI way) z := by
          intro hn
          rw [if_neg hn] at hf
          unfold wc_X5_after_226 wc_X5_after_227
          exact ⟨fun _ => no hf, fun _ => ⟨fun _ => no hf, fun h4 => absurd rfl h4⟩⟩
        refine ⟨fun h4 => n226 (fun u => ?_), fun h4 => ⟨fun h5 => n226 (fun u => h5 u.2.2.1), fun h5 => ⟨fun h6 => n226 (fun u => ?_), fun h6 => ⟨fun h7 => n226 (fun u => ?_), fun h7 => ?_⟩⟩⟩⟩
        · rw [bi_0] at h4; rw [h4] at u; exact Bool.false_ne_true u.2.1
        · rw [ib_t (by omega), row _ (by omega)] at h6
          rw [h6] at u; exact Bool.false_ne_true u.2.2.2.1
        · rw [ib_st (by omega)] at h7; exact h7 u.2.2.2.2
        · rw [bi_n] at h4
          rw [ib_t (by omega), row _ (by omega), Bool.not_eq_false] at h6
          rw [ib_st (by omega)] at h7
          unfold wc_X5_after_227
          rw [way3]
          refine ⟨fun h8 => no ?_, fun h8 => ⟨fun h9 => (by cases h9), fun _ => ?_⟩⟩
          · rw [if_neg (fun u => h8 u.1)] at hf; exact hf
          · rw [if_pos ⟨h8, h4, h5, h6, h7⟩] at hf
            rw [c256, i_or]
            exact yes _ hf
      · rw [if_neg h2, if_pos h3] at hf
        rw [i_le (by omega) (by omega), ib_t (by omega), ib_shr _ _ (by omega), row _ (by omega), i_or]
        have d : 8 * y + (8 + x) = 8 * (y + 1) + x := by omega
        rw [d]
        refine ⟨fun h4 => no ?_, fun h4 => ⟨fun h5 => no ?_, fun h5 => yes _ ?_⟩⟩
        · rw [if_neg (by omega)] at hf; exact hf
        · rw [if_neg (fun u => by rw [h5] at u; exact Bool.false_ne_true u.2)] at hf; exact hf
        · rw [Bool.not_eq_false] at h5
          rw [if_pos ⟨by omega, h5⟩] at hf; exact hf
      · rw [if_pos h2] at hf
        intro v4 e4
        have hpx : 2 ^ x * 2 ^ 1 < 2 ^ 32 := by
          rw [← Nat.pow_add]
          exact Nat.pow_lt_pow_right (by omega) (by omega)
        rw [i_1, pk_shlN _ 1 (i_sm ⟨1, by omega⟩) hpx, ← Nat.pow_add] at e4
        rw [e4, i_p2 (by omega) (by omega)]
        refine ⟨fun h4 => no ?_, fun h4 => ?_⟩
        · rw [if_neg (by omega)] at hf; exact hf
        · rw [ib_t (by omega), row _ (by omega), ib_st (by omega), i_or]
          refine ⟨fun h5 => no ?_, fun h5 => ⟨fun h6 => no ?_, fun h6 => yes _ ?_⟩⟩
          · rw [if_neg (fun u => by rw [h5] at u; exact Bool.false_ne_true u.2.1)] at hf; exact hf
          · rw [if_neg (fun u => h6 u.2.2)] at hf; exact hf
          · rw [Bool.not_eq_false] at h5
            rw [if_pos ⟨by omega, h5, h6⟩] at hf; exact hf
    · rw [bi_0] at h1
      have hn : ¬ (S (8 * y + x) = true ∧ st.testBit x = false) := fun u => by rw [hb.mpr u] at h1; cases h1
      rw [if_pos hn] at hf
      refine ⟨fun h2 => no ?_, fun h2 => ?_⟩
      · rw [if_neg h2] at hf; exact hf
      · rw [if_pos h2] at hf
        rw [i_clr hst (by omega)]
        exact yes _ hf
  have t53 : ∀ b, (b = true ↔ (S (8 * y + x) = true ∧ st.testBit x = false)) → wc_X5_after_53 Q (nI x) (nI y) (nI st) (nI way) v1 (nI (2 ^ x)) (nI (2 ^ (w - 1))) (bi b) z := by
    intro b hb
    unfold wc_X5_after_53
    rw [i_p2 (by omega) (by omega), c256, ib_st (by omega), way0]
    refine ⟨fun h1 => t90 (fun u => by omega) b hb, fun h1 => ⟨fun h2 => t90 (fun u => by rw [h2] at u; exact Bool.false_ne_true u.2) b hb, fun h2 => ?_⟩⟩
    rw [Bool.not_eq_false] at h2
    have hf : af w h r S x y st way = if way = 0 ∧ S (8 * y + x) = true ∧ st.testBit x = false then some (bclr st 8) else none := by
      unfold af; rw [if_pos ⟨by omega, h2⟩]
    refine ⟨fun h3 => no ?_, fun h3 => ⟨fun h4 => no ?_, fun h4 => ?_⟩⟩
    · rw [if_neg (fun u => h3 u.1)] at hf; exact hf
    · rw [bi_0] at h4
      rw [if_neg (fun u => by rw [hb.mpr u.2] at h4; cases h4)] at hf; exact hf
    · rw [bi_n, hb] at h4
      rw [if_pos ⟨h3, h4⟩] at hf
      rw [i_clr8 hst]
      exact yes _ hf
  rw [ib_t (by omega), row _ (by omega), ib_st (by omega)]
  refine ⟨fun h1 => ?_, fun h1 => ⟨fun h2 => ?_, fun h2 => ?_⟩⟩
  · unfold wc_X5_after_52
    exact t53 false ⟨fun u => (by cases u), fun u => by rw [h1] at u; exact absurd u.1 Bool.false_ne_true⟩
  · unfold wc_X5_after_52
    exact t53 false ⟨fun u => (by cases u), fun u => absurd u.2 h2⟩
  · rw [Bool.not_eq_false] at h1
    exact t53 true ⟨fun _ => ⟨h1, h2⟩, fun _ => rfl⟩
theorem af_lt {n : Nat} (hw : w ≤ 8) (hx : x < w) (hst : st < 512) (e : af w h r S x y st way = some n) : n < 512 := by
  unfold af at e
  split at e
  · split at e
    · cases e; exact bclr_lt hst
    · cases e
  · split at e
    · split at e
      · cases e; exact bclr_lt hst
      · cases e
    · split at e
      · split at e
        · cases e; exact bset_lt hst (by omega)
        · cases e
      · split at e
        · split at e
          · cases e; exact bset_lt hst (by omega)
          · cases e
        · split at e
          · cases e; exact bset_lt hst (by omega)
          · cases e
theorem af_o (hw : w ≤ 8) (hx : x < w) (hst : st < 512) : ∀ n, af w h r S x y st way = some n → n < 512 := fun _ e => af_lt hw hx hst e
theorem bo_neg {o : Option Nat} (h : ∀ n, o = some n → n < 512) : (0 ≤ bo o) ↔ o ≠ none := by
  cases o with
  | none => exact ⟨fun e => absurd e (by decide +kernel), fun e => absurd rfl e⟩
  | some n =>
    refine ⟨fun _ e => (by cases e), fun _ => ?_⟩
    have := h n rfl
    show (0 : Int32) ≤ nI n
    rw [i_0, i_le (by omega) (by omega)]; omega
/-- what the class has stored for a state -/
def vo_l (o : Option Nat) (A : Nat → Int64) (x : Nat) : Int64 := match o with
  | none => 0
  | some n => A (512 * x + n)
theorem sq_onward {o : Option Nat} (hx : x < 8) (ho : ∀ n, o = some n → n < 512) (k : Q (.inl (some (.long (vo_l o (tq_al z 4) (x + 1))))) z) : wm_X5_onward (nI x) (bo o) z Q := by
  unfold wm_X5_onward
  rw [bo_neg ho]
  refine ⟨fun h1 => ?_, fun h1 => ?_⟩
  · cases o with
    | none => exact absurd rfl h1
    | some n =>
      have := ho n rfl
      rw [show bo (some n) = nI n from rfl, i_1, i_add, i_512, pk_mul, i_add]
      refine ⟨i_in (by omega) (by omega), ?_⟩
      rw [i_cl (by omega), Nat.mul_comm (x + 1) 512]
      exact k
  · cases o with
    | none => exact k
    | some n => exact absurd (fun e => by cases e) h1
theorem sq_sumOnward (hd : jd w h r S) (hj : jc w h r S z) (hx : x < w) (hy : y < h) (hst : st < 512) (k : Q (.inl (some (.long (((vo_l (af w h r S x y st 0) (tq_al z 4) (x + 1) + vo_l (af w h r S x y st 1) (tq_al z 4) (x + 1)) + vo_l (af w h r S x y st 2) (tq_al z 4) (x + 1)) + vo_l (af w h r S x y st 3) (tq_al z 4) (x + 1))))) z) : wm_X5_sumOnward (nI x) (nI y) (nI st) z Q := by
  have hw8 := hd.2.1
  unfold wm_X5_sumOnward wc_X5_sumOnward_6
  refine lp_for (fun m => (match m with
    | 0 => (0 : Int64)
    | 1 => 0 + vo_l (af w h r S x y st 0) (tq_al z 4) (x + 1)
    | 2 => 0 + vo_l (af w h r S x y st 0) (tq_al z 4) (x + 1) + vo_l (af w h r S x y st 1) (tq_al z 4) (x + 1)
    | 3 => 0 + vo_l (af w h r S x y st 0) (tq_al z 4) (x + 1) + vo_l (af w h r S x y st 1) (tq_al z 4) (x + 1) + vo_l (af w h r S x y st 2) (tq_al z 4) (x + 1)
    | _ => 0 + vo_l (af w h r S x y st 0) (tq_al z 4) (x + 1) + vo_l (af w h r S x y st 1) (tq_al z 4) (x + 1) + vo_l (af w h r S x y st 2) (tq_al z 4) (x + 1) + vo_l (af w h r S x y st 3) (tq_al z 4) (x + 1), nI m, z)) 4 ?_ rfl
  intro m hm B hB
  simp only
  unfold wb_X5_sumOnward_6
  rw [i_4]
  refine ⟨fun h1 => ?_, fun h1 => ?_⟩
  · rw [i_le (by omega) (by omega)] at h1
    have : m = 4 := by omega
    subst this
    rw [Int64.zero_add]; exact k
  · rw [i_le (by omega) (by omega)] at h1
    refine sq_aft hd hj hx hy hst (by omega) ⟨_, rfl, ?_⟩
    refine sq_onward (by omega) (af_o hw8 hx hst) ⟨_, rfl, fun v1 e1 v2 e2 => ?_⟩
    rw [i_1, i_add] at e2
    subst e2
    have hB := hB (by omega)
    have : m = 0 ∨ m = 1 ∨ m = 2 ∨ m = 3 := by omega
    rw [e1]
    rcases this with rfl | rfl | rfl | rfl <;> exact hB
end AFTER
