/-! ===== how many rows of ends there are; what a cell does to them ===== -/
def gen : Nat → Nat → List Nat
  | 0, 0 => [0]
  | 0, _ + 1 => []
  | n + 1, 0 => (gen n 0).map (fun a => 4 * a) ++ (gen n 1).map (fun a => 4 * a + 1)
  | n + 1, d + 1 => (gen n (d + 1)).map (fun a => 4 * a) ++ (gen n (d + 2)).map (fun a => 4 * a + 1) ++ (gen n d).map (fun a => 4 * a + 2)
theorem gen_9 : (gen 9 0).length = 835 := by decide +kernel
theorem pg_4d (s k : Nat) : pg (s / 4) k = pg s (k + 1) := by
  unfold pg
  rw [Nat.div_div_eq_div_mul, show 2 * (k + 1) = 2 * k + 2 by omega, Nat.pow_add, Nat.mul_comm (2 ^ (2 * k))]
theorem pg_z (s : Nat) : pg s 0 = s % 4 := by unfold pg; simp
theorem dd_d (s : Nat) : ∀ i, dd s (i + 1) = endv (pg s 0) + dd (s / 4) i
  | 0 => by
    show dd s 0 + endv (pg s 0) = endv (pg s 0) + 0
    have : dd s 0 = 0 := rfl
    omega
  | i + 1 => by
    show dd s (i + 1) + endv (pg s (i + 1)) = endv (pg s 0) + (dd (s / 4) i + endv (pg (s / 4) i))
    rw [dd_d s i, pg_4d]; omega
theorem gen_in : ∀ (n d s : Nat), (∀ k, pg s k ≠ 3) → (∀ k, n ≤ k → pg s k = 0) → (∀ i, 0 ≤ (d : Int) + dd s i) → (d : Int) + dd s n = 0 → s ∈ gen n d
  | 0, d, s, _, h2, _, h4 => by
    have : s = 0 := pg_x (fun k => by rw [h2 k (Nat.zero_le _), pg_0])
    subst this
    have z : dd 0 0 = 0 := rfl
    have : d = 0 := by omega
    subst this
    exact List.mem_singleton.mpr rfl
  | n + 1, d, s, h1, h2, h3, h4 => by
    have hs : s = 4 * (s / 4) + pg s 0 := by rw [pg_z]; omega
    have a1 : ∀ k, pg (s / 4) k ≠ 3 := fun k => by rw [pg_4d]; exact h1 _
    have a2 : ∀ k, n ≤ k → pg (s / 4) k = 0 := fun k hk => by rw [pg_4d]; exact h2 _ (by omega)
    have a4 := h4
    rw [dd_d] at a4
    have a3 : ∀ i, 0 ≤ (d : Int) + (endv (pg s 0) + dd (s / 4) i) := fun i => by rw [← dd_d]; exact h3 _
    have p4 := pg_4 s 0
    have p3 := h1 0
    rcases (by omega : pg s 0 = 0 ∨ pg s 0 = 1 ∨ pg s 0 = 2) with p | p | p
    · rw [p, endv_0] at a4 a3
      have := gen_in n d (s / 4) a1 a2 (fun i => by have := a3 i; omega) (by omega)
      rw [p] at hs
      cases d with
      | zero => exact List.mem_append_left _ (List.mem_map.mpr ⟨_, this, hs.symm⟩)
      | succ d => exact List.mem_append_left _ (List.mem_append_left _ (List.mem_map.mpr ⟨_, this, hs.symm⟩))
    · rw [p, endv_1] at a4 a3
      have := gen_in n (d + 1) (s / 4) a1 a2 (fun i => by have := a3 i; omega) (by omega)
      rw [p] at hs
      cases d with
      | zero => exact List.mem_append_right _ (List.mem_map.mpr ⟨_, this, hs.symm⟩)
      | succ d => exact List.mem_append_left _ (List.mem_append_right _ (List.mem_map.mpr ⟨_, this, hs.symm⟩))
    · rw [p, endv_2] at a4 a3
      rw [p] at hs
      cases d with
      | zero =>
        have := a3 0
        have z : dd (s / 4) 0 = 0 := rfl
        omega
      | succ d =>
        have := gen_in n d (s / 4) a1 a2 (fun i => by have := a3 i; omega) (by omega)
        exact List.mem_append_right _ (List.mem_map.mpr ⟨_, this, hs.symm⟩)
theorem bal_in {s : Nat} (h : bal 9 s) : s ∈ gen 9 0 := gen_in 9 0 s h.1 h.2.1 (fun i => by have := h.2.2.1 i; omega) (by have := h.2.2.2; omega)
theorem bal_up {n m s : Nat} (h : bal n s) (hm : n ≤ m) : bal m s := by
  refine ⟨h.1, fun k hk => h.2.1 k (by omega), h.2.2.1, ?_⟩
  have e := dd_cc (s := 0) (t := s) (a := n) (b := m) hm (fun k h1 _ => by rw [h.2.1 k h1, pg_0])
  have b0 := bal_0 n
  have b1 := bal_0 m
  have := b0.2.2.2
  have := b1.2.2.2
  have := h.2.2.2
  omega
/-- a row moved on by one place -/
theorem bal_sh {n s : Nat} (h : bal n s) : bal (n + 1) (4 * s) := by
  have p0 : pg (4 * s) 0 = 0 := by rw [pg_z]; omega
  have ps : ∀ k, pg (4 * s) (k + 1) = pg s k := fun k => by rw [← pg_4d, show 4 * s / 4 = s by omega]
  have d1 : ∀ i, dd (4 * s) (i + 1) = dd s i := fun i => by
    rw [dd_d, p0, show 4 * s / 4 = s by omega, endv_0]; omega
  refine ⟨fun k => ?_, fun k hk => ?_, fun i => ?_, ?_⟩
  · cases k with
    | zero => rw [p0]; decide
    | succ k => rw [ps]; exact h.1 k
  · cases k with
    | zero => exact p0
    | succ k => rw [ps]; exact h.2.1 k (by omega)
  · cases i with
    | zero => exact Int.le_refl _
    | succ i => rw [d1]; exact h.2.2.1 i
  · rw [d1]; exact h.2.2.2
theorem bal_dn {n s : Nat} (h : bal (n + 1) s) (h0 : pg s n = 0) : bal n s := by
  refine ⟨h.1, fun k hk => ?_, h.2.2.1, ?_⟩
  · by_cases q : k = n
    · rw [q]; exact h0
    · exact h.2.1 k (by omega)
  · have e : dd s (n + 1) = dd s n + endv (pg s n) := rfl
    have := h.2.2.2
    rw [h0, endv_0] at e
    omega
def isR (s k m : Nat) : Prop := k < m ∧ pg s m = 2 ∧ dd s (m + 1) = dd s k ∧ ∀ i, k < i → i ≤ m → dd s k + 1 ≤ dd s i
def isL (s k m : Nat) : Prop := m < k ∧ pg s m = 1 ∧ dd s m = dd s (k + 1) ∧ ∀ i, m < i → i ≤ k → dd s (k + 1) + 1 ≤ dd s i
noncomputable def mR (s k : Nat) : Nat := @dite _ (∃ m, isR s k m) (Classical.propDecidable _) (fun h => Classical.choose h) (fun _ => 0)
noncomputable def mL (s k : Nat) : Nat := @dite _ (∃ m, isL s k m) (Classical.propDecidable _) (fun h => Classical.choose h) (fun _ => 0)
theorem isR_1 {s k m m' : Nat} (h : isR s k m) (h' : isR s k m') : m = m' := by
  rcases Nat.lt_trichotomy m m' with q | q | q
  · have := h'.2.2.2 (m + 1) (by have := h.1; omega) (by omega)
    have := h.2.2.1
    omega
  · exact q
  · have := h.2.2.2 (m' + 1) (by have := h'.1; omega) (by omega)
    have := h'.2.2.1
    omega
theorem isL_1 {s k m m' : Nat} (h : isL s k m) (h' : isL s k m') : m = m' := by
  rcases Nat.lt_trichotomy m m' with q | q | q
  · have := h.2.2.2 m' q (by have := h'.1; omega)
    have := h'.2.2.1
    omega
  · exact q
  · have := h'.2.2.2 m q (by have := h.1; omega)
    have := h.2.2.1
    omega
theorem mR_e {s k m : Nat} (h : isR s k m) : mR s k = m := by
  have ex : ∃ m, isR s k m := ⟨m, h⟩
  unfold mR
  rw [dif_pos ex]
  exact isR_1 (Classical.choose_spec ex) h
theorem mL_e {s k m : Nat} (h : isL s k m) : mL s k = m := by
  have ex : ∃ m, isL s k m := ⟨m, h⟩
  unfold mL
  rw [dif_pos ex]
  exact isL_1 (Classical.choose_spec ex) h
def non (s x : Nat) : Nat := putE (putE s x 0) (x + 1) 0
/-- where the ends go at a cell: c, r, d tell whether it, the one to its right and the one below are there -/
noncomputable def tr (c r d : Bool) (x s : Nat) : List Nat :=
  if c = false then (if pg s x = 0 ∧ pg s (x + 1) = 0 then [s] else [])
  else if pg s x = 0 ∧ pg s (x + 1) = 0 then (if r = true ∧ d = true then [putE (putE (non s x) x 1) (x + 1) 2] else [])
  else if pg s x = 0 ∨ pg s (x + 1) = 0 then (if d = true then [putE (non s x) x (pg s x + pg s (x + 1))] else []) ++ (if r = true then [putE (non s x) (x + 1) (pg s x + pg s (x + 1))] else [])
  else if pg s x = 1 ∧ pg s (x + 1) = 1 then [putE (non s x) (mR s (x + 1)) 1]
  else if pg s x = 2 ∧ pg s (x + 1) = 2 then [putE (non s x) (mL s x) 2]
  else if pg s x = 2 then [non s x] else []
/-- whether the ends close the loop -/
def clo (c l : Bool) (x s : Nat) : Bool := c && l && decide (pg s x = 1) && decide (pg s (x + 1) = 2) && decide (non s x = 0)
theorem pg_non {s x k : Nat} : pg (non s x) k = if k = x + 1 then 0 else if k = x then 0 else pg s k := by
  unfold non
  rw [pg_putE (by omega), pg_putE (by omega)]
theorem non_2 {s x p q : Nat} (hp : p < 4) (hq : q < 4) : putE (putE (non s x) x p) (x + 1) q = putE (putE s x p) (x + 1) q := pg_x fun k => by
  rw [pg_putE hq, pg_putE hp, pg_non, pg_putE hq, pg_putE hp]
  by_cases h1 : k = x + 1
  · rw [if_pos h1, if_pos h1]
  · by_cases h2 : k = x
    · rw [if_neg h1, if_pos h2, if_neg h1, if_pos h2]
    · simp only [h1, h2, if_false]
theorem non_x {s x p : Nat} (hp : p < 4) : putE (non s x) x p = putE (putE s x p) (x + 1) 0 := pg_x fun k => by
  rw [pg_putE hp, pg_non, pg_putE (by omega), pg_putE hp]
  by_cases h1 : k = x + 1
  · rw [if_neg (by omega), if_pos h1, if_pos h1]
  · by_cases h2 : k = x
    · rw [if_pos h2, if_neg h1, if_pos h2]
    · rw [if_neg h2, if_neg h1, if_neg h2, if_neg h1, if_neg h2]
theorem non_y {s x p : Nat} (hp : p < 4) : putE (non s x) (x + 1) p = putE (putE s x 0) (x + 1) p := pg_x fun k => by
  rw [pg_putE hp, pg_non, pg_putE hp, pg_putE (by omega)]
  by_cases h1 : k = x + 1
  · rw [if_pos h1, if_pos h1]
  · rw [if_neg h1, if_neg h1, if_neg h1]
theorem non_00 {s x : Nat} (h1 : pg s x = 0) (h2 : pg s (x + 1) = 0) : non s x = s := pg_x fun k => by
  rw [pg_non]
  by_cases q1 : k = x + 1
  · rw [if_pos q1, q1, h2]
  · by_cases q2 : k = x
    · rw [if_neg q1, if_pos q2, q2, h1]
    · rw [if_neg q1, if_neg q2]
theorem tr_bal {c r d : Bool} {x s n : Nat} (h : bal n s) (hx : x + 1 < n) {t : Nat} (ht : t ∈ tr c r d x s) : bal n t := by
  have e : dd s (x + 2) = dd s x + endv (pg s x) + endv (pg s (x + 1)) := rfl
  have d0 := h.2.2.1 x
  have d1 : 0 ≤ dd s x + endv (pg s x) := h.2.2.1 (x + 1)
  have d2 := h.2.2.1 (x + 2)
  have px := bal_p h x
  have py := bal_p h (x + 1)
  unfold tr at ht
  split at ht
  · split at ht
    · rw [List.mem_singleton.mp ht]; exact h
    · cases ht
  · split at ht
    · rename_i q
      split at ht
      · rw [List.mem_singleton.mp ht, non_2 (by omega) (by omega)]
        exact bal_2 h hx (by omega) (by omega) (by rw [q.1, q.2]; rfl) (by rw [endv_1]; omega)
      · cases ht
    · rename_i q0
      split at ht
      · rename_i q
        have hp : pg s x + pg s (x + 1) < 3 := by omega
        have hv : endv (pg s x + pg s (x + 1)) = endv (pg s x) + endv (pg s (x + 1)) := by
          rcases q with q | q
          · rw [q, endv_0, Nat.zero_add]; omega
          · rw [q, endv_0, Nat.add_zero]; omega
        rcases List.mem_append.mp ht with ht | ht
        · split at ht
          · rw [List.mem_singleton.mp ht, non_x (by omega)]
            exact bal_2 h hx hp (by omega) (by rw [hv, endv_0]; omega) (by rw [hv]; omega)
          · cases ht
        · split at ht
          · rw [List.mem_singleton.mp ht, non_y (by omega)]
            exact bal_2 h hx (by omega) hp (by rw [hv, endv_0]; omega) (by rw [endv_0]; omega)
          · cases ht
      · split at ht
        · rename_i q
          obtain ⟨m, m1, m2, m3, m4, m5⟩ := mate_r h q.2
          rw [List.mem_singleton.mp ht, mR_e (m := m) ⟨m1, m3, m4, m5⟩]
          exact bal_r h q.1 q.2 m1 m2 m3 m5
        · split at ht
          · rename_i q
            obtain ⟨m, m1, m3, m4, m5⟩ := mate_l h q.1
            rw [List.mem_singleton.mp ht, mL_e (m := m) ⟨m1, m3, m4, m5⟩]
            exact bal_l h hx q.1 q.2 m1 m3 m5
          · split at ht
            · rename_i q1 q2 q3
              rw [List.mem_singleton.mp ht]
              have : pg s (x + 1) = 1 := by omega
              exact bal_2 h hx (by omega) (by omega) (by rw [q3, this]; rfl) (by rw [endv_0]; omega)
            · cases ht
theorem tr_len (c r d : Bool) (x s : Nat) : (tr c r d x s).length ≤ (if c = true then 2 else 1) := by
  unfold tr
  cases c <;> cases r <;> cases d <;> simp <;> (repeat' split) <;> simp
