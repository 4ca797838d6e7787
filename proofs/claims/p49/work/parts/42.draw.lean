/-! ===== remainders ===== -/
def dm (a : Int64) (t : Nat) : Nat := (a.toInt % (t : Int)).toNat
theorem dm_lt {a : Int64} {t : Nat} (h : 0 < t) : dm a t < t := by
  unfold dm
  have h1 := Int.emod_nonneg a.toInt (show (t : Int) ≠ 0 by omega)
  have h2 := Int.emod_lt_of_pos a.toInt (show (0 : Int) < t by omega)
  omega
theorem l_b (a : Int64) : -9223372036854775808 ≤ a.toInt ∧ a.toInt < 9223372036854775808 := ⟨Int64.le_toInt a, Int64.toInt_lt a⟩
theorem l_inj {a b : Int64} (h : a.toInt = b.toInt) : a = b := Int64.toInt_inj.mp h
theorem l_rem {a : Int64} {t : Nat} (h0 : 0 < t) (ht : t < 9223372036854775808) : (a - a / lN t * lN t).toInt = a.toInt.tmod t := by
  have ab := l_b a
  have tt : (lN t).toInt = (t : Int) := pk_lT (by omega)
  have hq : (a / lN t).toInt = a.toInt.tdiv t := by
    rw [Int64.toInt_div, tt]
    refine Int.bmod_eq_of_le ?_ ?_
    · rcases Int.lt_or_le a.toInt 0 with g | g
      · have h1 : a.toInt.tdiv t = -((-a.toInt).tdiv t) := by rw [Int.neg_tdiv, Int.neg_neg]
        have h2 : (-a.toInt).tdiv t ≤ -a.toInt := Int.tdiv_le_self _ (by omega)
        have h3 : (2 : Int) ^ 64 / 2 = 9223372036854775808 := by decide
        omega
      · have h1 : 0 ≤ a.toInt.tdiv t := Int.tdiv_nonneg g (by omega)
        have h3 : (2 : Int) ^ 64 / 2 = 9223372036854775808 := by decide
        omega
    · rcases Int.lt_or_le a.toInt 0 with g | g
      · have h1 : a.toInt.tdiv t ≤ 0 := by
          have h1 : a.toInt.tdiv t = -((-a.toInt).tdiv t) := by rw [Int.neg_tdiv, Int.neg_neg]
          have h2 : 0 ≤ (-a.toInt).tdiv t := Int.tdiv_nonneg (by omega) (by omega)
          omega
        have h3 : ((2 : Int) ^ 64 + 1) / 2 = 9223372036854775808 := by decide
        omega
      · have h2 : a.toInt.tdiv t ≤ a.toInt := Int.tdiv_le_self _ g
        have h3 : ((2 : Int) ^ 64 + 1) / 2 = 9223372036854775808 := by decide
        omega
  have hm := Int.tmod_add_mul_tdiv a.toInt (t : Int)
  have hb1 : -(t : Int) < a.toInt.tmod t := by
    rcases Int.lt_or_le a.toInt 0 with g | g
    · have h1 : a.toInt.tmod t = -((-a.toInt).tmod t) := by rw [Int.neg_tmod, Int.neg_neg]
      have h2 := Int.tmod_lt_of_pos (-a.toInt) (show (0 : Int) < t by omega)
      omega
    · have := Int.tmod_nonneg (t : Int) g
      omega
  have hb2 := Int.tmod_lt_of_pos a.toInt (show (0 : Int) < t by omega)
  have hmul : (a / lN t * lN t).toInt = a.toInt.tdiv t * t := by
    rw [Int64.toInt_mul, hq, tt]
    have e : a.toInt.tdiv t * t = a.toInt - a.toInt.tmod t := by rw [Int.mul_comm]; omega
    have hz : a.toInt < 0 → a.toInt.tmod t ≤ 0 := fun g => by
      have h1 : a.toInt.tmod t = -((-a.toInt).tmod t) := by rw [Int.neg_tmod, Int.neg_neg]
      have := Int.tmod_nonneg (t : Int) (show 0 ≤ -a.toInt by omega)
      omega
    have hz2 : 0 ≤ a.toInt → 0 ≤ a.toInt.tmod t := fun g => Int.tmod_nonneg (t : Int) g
    have h3 : (2 : Int) ^ 64 / 2 = 9223372036854775808 := by decide
    have h4 : ((2 : Int) ^ 64 + 1) / 2 = 9223372036854775808 := by decide
    rw [e]
    refine Int.bmod_eq_of_le ?_ ?_
    · rcases Int.lt_or_le a.toInt 0 with g | g
      · have := hz g; omega
      · omega
    · rcases Int.lt_or_le a.toInt 0 with g | g
      · omega
      · have := hz2 g; omega
  rw [Int64.toInt_sub, hmul]
  have e : a.toInt - a.toInt.tdiv t * t = a.toInt.tmod t := by rw [Int.mul_comm]; omega
  rw [e]
  have h3 : (2 : Int) ^ 64 / 2 = 9223372036854775808 := by decide
  have h4 : ((2 : Int) ^ 64 + 1) / 2 = 9223372036854775808 := by decide
  exact Int.bmod_eq_of_le (by omega) (by omega)
theorem tm_em {x t : Int} (ht : 0 < t) : x % t = if x.tmod t < 0 then x.tmod t + t else x.tmod t := by
  have h1 := Int.tmod_add_mul_tdiv x t
  have h3 := Int.tmod_lt_of_pos x ht
  have h4 : -t < x.tmod t := by
    rcases Int.lt_or_le x 0 with g | g
    · have h1 : x.tmod t = -((-x).tmod t) := by rw [Int.neg_tmod, Int.neg_neg]
      have h2 := Int.tmod_lt_of_pos (-x) ht
      omega
    · have := Int.tmod_nonneg t g
      omega
  by_cases q : x.tmod t < 0
  · rw [if_pos q]
    have : x = x.tmod t + t + t * (x.tdiv t - 1) := by rw [Int.mul_sub]; omega
    rw [this, Int.add_mul_emod_self_left]
    have h5 : x.tmod t + t + t * (x.tdiv t - 1) = x := this.symm
    rw [h5]
    exact Int.emod_eq_of_lt (by omega) (by omega)
  · rw [if_neg q]
    have : x = x.tmod t + t * x.tdiv t := by omega
    have h6 : x % t = (x.tmod t + t * x.tdiv t) % t := by rw [← this]
    rw [h6, Int.add_mul_emod_self_left]
    exact Int.emod_eq_of_lt (by omega) (by omega)
theorem l_msb (a : Int64) {t : Nat} (ht : t < 9223372036854775808) : (0 : Int64) ≤ a ^^^ lN t ↔ 0 ≤ a.toInt := by
  have h0 : (0 : Int64).toInt = 0 := rfl
  rw [Int64.le_iff_toInt_le, h0]
  have e1 : (a ^^^ lN t).toBitVec.msb = decide ((a ^^^ lN t).toInt < 0) := BitVec.msb_eq_toInt
  have e2 : a.toBitVec.msb = decide (a.toInt < 0) := BitVec.msb_eq_toInt
  have e3 : (lN t).toBitVec.msb = decide ((lN t).toInt < 0) := BitVec.msb_eq_toInt
  have tt : (lN t).toInt = (t : Int) := pk_lT (by omega)
  rw [tt, decide_eq_false (by omega)] at e3
  have e4 : (a ^^^ lN t).toBitVec.msb = (a.toBitVec.msb ^^ (lN t).toBitVec.msb) := BitVec.msb_xor
  rw [e1, e2, e3, Bool.xor_false] at e4
  have e5 := decide_eq_decide.mp e4
  omega
theorem sp_fmod {a : Int64} {t : Nat} {z : tq_S} {Q : tq_O → tq_S → Prop} (h0 : 0 < t) (ht : t < 4611686018427387904) (k : Q (.inl (some (.long (lN (dm a t))))) z) : wm_J9_floorMod_f86c9 a (lN t) z Q := by
  unfold wm_J9_floorMod_f86c9
  refine ⟨?_, fun v e => ?_⟩
  · rw [show (0 : Int64) = lN 0 from rfl, pk_lEQ (by omega) (by omega)]; omega
  have hv : v.toInt = a.toInt.tmod t := by rw [e]; exact l_rem h0 (by omega)
  have em := tm_em (x := a.toInt) (show (0 : Int) < t by omega)
  have dmi : ((dm a t : Nat) : Int) = a.toInt % t := by
    unfold dm
    have := Int.emod_nonneg a.toInt (show (t : Int) ≠ 0 by omega)
    omega
  have dl := dm_lt (a := a) h0
  have hi : (lN (dm a t)).toInt = (dm a t : Int) := pk_lT (by omega)
  rw [l_msb a (by omega)]
  have nn : 0 ≤ a.toInt → 0 ≤ a.toInt.tmod t := fun g => Int.tmod_nonneg _ g
  refine ⟨fun q => ?_, fun q => ⟨fun q2 => ?_, fun q2 => ?_⟩⟩
  · have g := nn q
    rw [if_neg (by omega)] at em
    have : v = lN (dm a t) := l_inj (by rw [hi, dmi, em, hv])
    rw [this]; exact k
  · have g0 : a.toInt.tmod t = 0 := by rw [← hv, q2]; rfl
    rw [if_neg (by omega)] at em
    have : v = lN (dm a t) := l_inj (by rw [hi, dmi, em, hv])
    rw [this]; exact k
  · have g1 : a.toInt.tmod t ≤ 0 := by
      have h1 : a.toInt.tmod t = -((-a.toInt).tmod t) := by rw [Int.neg_tmod, Int.neg_neg]
      have := Int.tmod_nonneg (t : Int) (show 0 ≤ -a.toInt by omega)
      omega
    have g2 : a.toInt.tmod t ≠ 0 := fun u => q2 (l_inj (by rw [hv, u]; rfl))
    rw [if_pos (by omega)] at em
    have g3 : -(t : Int) < a.toInt.tmod t := by
      have h1 : a.toInt.tmod t = -((-a.toInt).tmod t) := by rw [Int.neg_tmod, Int.neg_neg]
      have h2 := Int.tmod_lt_of_pos (-a.toInt) (show (0 : Int) < t by omega)
      omega
    have : v + lN t = lN (dm a t) := l_inj (by
      have tt : (lN t).toInt = (t : Int) := pk_lT (by omega)
      rw [hi, dmi, em, Int64.toInt_add, hv, tt]
      have h3 : (2 : Int) ^ 64 / 2 = 9223372036854775808 := by decide
      have h4 : ((2 : Int) ^ 64 + 1) / 2 = 9223372036854775808 := by decide
      exact Int.bmod_eq_of_le (by omega) (by omega))
    rw [this]; exact k
