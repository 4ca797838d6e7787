/-! ===== the world: what is read after a write ===== -/
theorem rw_fi_fi {z : tq_S} {k k1 : Nat} {v : Int32} : tq_fi (tq_sfi z k v) k1 = if k1 = k then v else tq_fi z k1 := rfl
theorem rw_fl_fl {z : tq_S} {k k1 : Nat} {v : Int64} : tq_fl (tq_sfl z k v) k1 = if k1 = k then v else tq_fl z k1 := rfl
theorem rw_fl_ai {z : tq_S} {k k1 : Nat} {v : Nat → Int32} : tq_fl (tq_sai z k v) k1 = tq_fl z k1 := rfl
theorem rw_ai_fi {z : tq_S} {k k1 : Nat} {v : Int32} : tq_ai (tq_sfi z k v) k1 = tq_ai z k1 := rfl
theorem rw_ai_fl {z : tq_S} {k k1 : Nat} {v : Int64} : tq_ai (tq_sfl z k v) k1 = tq_ai z k1 := rfl
theorem rw_ai_ai {z : tq_S} {k k1 : Nat} {v : Nat → Int32} : tq_ai (tq_sai z k v) k1 = if k1 = k then v else tq_ai z k1 := rfl
theorem rw_al_al {z : tq_S} {k k1 : Nat} {v : Nat → Int64} : tq_al (tq_sal z k v) k1 = if k1 = k then v else tq_al z k1 := rfl
theorem rw_upd {f : Nat → Int32} {k j : Nat} {x : Int32} : upd f k x j = if j = k then x else f j := rfl
theorem rw_updL {f : Nat → Int64} {k j : Nat} {x : Int64} : vp_updL f k x j = if j = k then x else f j := rfl
/-! ===== numbers ===== -/
theorem nu_in {i : Int32} {n : Nat} (h0 : 0 ≤ i.toInt) (h1 : i.toInt < (n : Int)) : vp_in i n := by
  unfold vp_in
  rintro (h | h)
  · have := Int32.lt_iff_toInt_lt.mp h
    simp at this
    omega
  · rw [Int32.toNatClampNeg] at h
    omega
theorem nu_add {a b : Int32} (h0 : -2147483648 ≤ a.toInt + b.toInt) (h1 : a.toInt + b.toInt < 2147483648) : (a + b).toInt = a.toInt + b.toInt := by
  rw [Int32.toInt_add]
  exact Int.bmod_eq_of_le (by omega) (by omega)
theorem nu_sub {a b : Int32} (h0 : -2147483648 ≤ a.toInt - b.toInt) (h1 : a.toInt - b.toInt < 2147483648) : (a - b).toInt = a.toInt - b.toInt := by
  rw [Int32.toInt_sub]
  exact Int.bmod_eq_of_le (by omega) (by omega)
theorem nu_mul {a b : Int32} (h0 : -2147483648 ≤ a.toInt * b.toInt) (h1 : a.toInt * b.toInt < 2147483648) : (a * b).toInt = a.toInt * b.toInt := by
  rw [Int32.toInt_mul]
  exact Int.bmod_eq_of_le (by omega) (by omega)
theorem nu_lt {a b : Int32} : a < b ↔ a.toInt < b.toInt := Int32.lt_iff_toInt_lt
theorem nu_le {a b : Int32} : a ≤ b ↔ a.toInt ≤ b.toInt := Int32.le_iff_toInt_le
theorem nu_eq {a b : Int32} : a = b ↔ a.toInt = b.toInt := ⟨fun h => by rw [h], fun h => Int32.toInt_inj.mp h⟩
theorem nu_b (a : Int32) : -2147483648 ≤ a.toInt ∧ a.toInt < 2147483648 := ⟨Int32.le_toInt a, Int32.toInt_lt a⟩
/-! ===== a predicate that tells its answer ===== -/
def fn_i (P : tq_S → (tq_O → tq_S → Prop) → Prop) (z : tq_S) (v : Int32) : Prop := ∀ Q, Q (.inl (some (.int v))) z → P z Q
theorem fn_iw {P : tq_S → (tq_O → tq_S → Prop) → Prop} {z : tq_S} {v : Int32} {f : Int32 → tq_S → Prop} (h : fn_i P z v) (k : f v z) : P z (tq_wi f) := h _ ⟨v, rfl, k⟩
theorem sp_max {a b : Int32} {z : tq_S} : fn_i (wm_J9_max_7cf53 a b) z (if a < b then b else a) := by
  intro Q k
  unfold wm_J9_max_7cf53
  exact ⟨fun h => by simpa only [if_pos h] using k, fun h => by simpa only [if_neg h] using k⟩
theorem sp_min {a b : Int32} {z : tq_S} : fn_i (wm_J9_min_7cf53 a b) z (if b < a then b else a) := by
  intro Q k
  unfold wm_J9_min_7cf53
  exact ⟨fun h => by simpa only [if_pos h] using k, fun h => by simpa only [if_neg h] using k⟩
