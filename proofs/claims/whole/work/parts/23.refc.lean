/-! ===== the reference: beside, seen, parts, holes ===== -/
def bs (w h : Nat) (r : Bool) (c k : Nat) : Option Nat := if k = 0 then (if c % 8 + 1 < w then some (c + 1) else if r = true then some (c - (w - 1)) else none) else if k = 1 then (if 0 < c % 8 then some (c - 1) else if r = true then some (c + (w - 1)) else none) else if k = 2 then (if c / 8 + 1 < h then some (c + 8) else none) else (if 0 < c / 8 then some (c - 8) else none)
def bo : Option Nat → Int32
  | none => -1
  | some o => nI o
theorem bs_in {w h : Nat} {r : Bool} {c k o : Nat} (bw : w ≤ 8) (bh : h ≤ 8) (h1 : c % 8 < w) (h2 : c / 8 < h) (e : bs w h r c k = some o) : o < 64 ∧ o % 8 < w ∧ o / 8 < h := by
  unfold bs at e
  split at e
  · split at e
    · cases e; omega
    · split at e
      · cases e; omega
      · cases e
  · split at e
    · split at e
      · cases e; omega
      · split at e
        · cases e; omega
        · cases e
    · split at e
      · split at e
        · cases e; omega
        · cases e
      · split at e
        · cases e; omega
        · cases e
theorem bs_nb {w h : Nat} {r : Bool} {c o : Nat} (bw : w ≤ 8) (bh : h ≤ 8) (h1 : c % 8 < w) (h2 : c / 8 < h) (h3 : o % 8 < w) (h4 : o / 8 < h) : (∃ k, k < 4 ∧ bs w h r c k = some o) ↔ nb w r c o = true := by
  unfold nb
  simp only [Bool.or_eq_true, Bool.and_eq_true, decide_eq_true_eq]
  constructor
  · rintro ⟨k, hk, e⟩
    unfold bs at e
    split at e
    · split at e
      · cases e; exact Or.inl (Or.inl (Or.inl (Or.inr ⟨rfl, by omega⟩)))
      · split at e
        · rename_i hr; cases e; exact Or.inr ⟨⟨hr, by omega⟩, by omega⟩
        · cases e
    · split at e
      · split at e
        · cases e; exact Or.inl (Or.inl (Or.inr ⟨by omega, by omega⟩))
        · split at e
          · rename_i hr; cases e; exact Or.inl (Or.inr ⟨⟨hr, by omega⟩, rfl⟩)
          · cases e
      · split at e
        · split at e
          · cases e; exact Or.inl (Or.inl (Or.inl (Or.inl (Or.inl rfl))))
          · cases e
        · split at e
          · cases e; exact Or.inl (Or.inl (Or.inl (Or.inl (Or.inr (by omega)))))
          · cases e
  · rintro (((((e | e) | e) | e) | e) | e)
    · refine ⟨2, by omega, ?_⟩
      unfold bs; rw [if_neg (by omega), if_neg (by omega), if_pos rfl, if_pos (by omega), e]
    · refine ⟨3, by omega, ?_⟩
      unfold bs; rw [if_neg (by omega), if_neg (by omega), if_neg (by omega), if_pos (by omega)]
      exact congrArg some (by omega)
    · refine ⟨0, by omega, ?_⟩
      unfold bs; rw [if_pos rfl, if_pos e.2, e.1]
    · refine ⟨1, by omega, ?_⟩
      unfold bs; rw [if_neg (by omega), if_pos rfl, if_pos (by omega)]
      exact congrArg some (by omega)
    · refine ⟨1, by omega, ?_⟩
      unfold bs; rw [if_neg (by omega), if_pos rfl, if_neg (by omega), if_pos e.1.1, e.2]
    · refine ⟨0, by omega, ?_⟩
      unfold bs; rw [if_pos rfl, if_neg (by omega), if_pos e.1.1]
      exact congrArg some (by omega)
theorem i_m1 {a : Nat} (h : 1 ≤ a) : nI a + (-1 : Int32) = nI (a - 1) := by
  obtain ⟨b, rfl⟩ : ∃ b, a = b + 1 := ⟨a - 1, by omega⟩
  exact pk_m1 b
section RBES
variable {w h : Nat} {r : Bool} {S : Nat → Bool} {z : tq_S} {Q : tq_O → tq_S → Prop}
theorem sq_b69 {x y : Int32} (hd : jd w h r S) (hj : jr w h r S z) (k : Q (.inl (some (.int (if wi w h x y = true then ((8 : Int32) * y) + x else -1)))) z) : wc_X12_beside_69 Q x y z := by
  have wid : wi w h x y = (decide (0 ≤ x.toInt) && decide (x.toInt < (w : Int)) && (decide (0 ≤ y.toInt) && decide (y.toInt < (h : Int)))) := by
    unfold wi ho; rw [Bool.and_true, Bool.and_assoc]
  unfold wc_X12_beside_69
  rw [hj.1.1]
  refine sq_isIn ⟨_, rfl, fun h1 => ?_, fun h1 => ?_⟩
  · rw [bi_0, fi_wi hd.1 hd.2.1] at h1
    rw [if_neg (by rw [wid, h1]; simp)] at k; exact k
  · rw [bi_n, fi_wi hd.1 hd.2.1] at h1
    rw [hj.1.2.1]
    refine sq_isIn ⟨_, rfl, fun h2 => ?_, fun h2 => ?_⟩
    · rw [bi_0, fi_wi hd.2.2.1 hd.2.2.2.1] at h2
      rw [if_neg (by rw [wid, h2]; simp)] at k; exact k
    · rw [bi_n, fi_wi hd.2.2.1 hd.2.2.2.1] at h2
      rw [if_pos (by rw [wid, h1, h2]; rfl)] at k; exact k
theorem wi_n {a b : Nat} (ha : a < 1000) (hb : b < 1000) : wi w h (nI a) (nI b) = (decide (a < w) && decide (b < h)) := by
  unfold wi; rw [ho_n (by omega) (by omega), Bool.and_true]
theorem wi_x {y : Int32} : wi w h (-1) y = false := by
  have : (-1 : Int32).toInt = -1 := by decide +kernel
  unfold wi ho; rw [this]; rfl
theorem wi_y {x : Int32} : wi w h x (-1) = false := by
  have : (-1 : Int32).toInt = -1 := by decide +kernel
  unfold wi ho; rw [this]; simp
theorem sq_b69n {a b : Nat} (hd : jd w h r S) (hj : jr w h r S z) (ha : a < 1000) (hb : b < 1000) (k : Q (.inl (some (.int (if a < w ∧ b < h then nI (8 * b + a) else -1)))) z) : wc_X12_beside_69 Q (nI a) (nI b) z := by
  refine sq_b69 hd hj ?_
  rw [wi_n ha hb, i_8, pk_mul, i_add]
  have e : ((decide (a < w) && decide (b < h)) = true) ↔ (a < w ∧ b < h) := by
    simp only [Bool.and_eq_true, decide_eq_true_eq]
  by_cases q : a < w ∧ b < h
  · rw [if_pos q] at k; rw [if_pos (e.mpr q)]; exact k
  · rw [if_neg q] at k; rw [if_neg (fun u => q (e.mp u))]; exact k
/-- the way round -/
theorem sq_b47 {a b : Nat} {X s0 s1 : Int32} (hd : jd w h r S) (hj : jr w h r S z) (hX : X = nI a) (hY : s1 + s0 = nI b) (ha : a ≤ w) (hb : b < 1000) (k : Q (.inl (some (.int (if (a < w ∨ r = true) ∧ b < h then nI (8 * b + (if a < w then a else 0)) else -1)))) z) : wc_X12_beside_47 Q X s0 s1 z := by
  have hw8 := hd.2.1
  have hw1 := hd.1
  unfold wc_X12_beside_47
  intro v1 e1
  rw [hY] at e1
  rw [hj.1.1, hj.1.2.2, hX, e1]
  refine ⟨fun h1 => ?_, fun h1 => ⟨?_, fun v2 e2 => ?_⟩⟩
  · rw [cr_r0] at h1
    refine sq_b69n hd hj (by omega) hb ?_
    rw [h1] at k
    by_cases q : a < w
    · by_cases q2 : b < h
      · rw [if_pos ⟨q, q2⟩]
        rw [if_pos ⟨Or.inl q, q2⟩, if_pos q] at k; exact k
      · rw [if_neg (fun u => q2 u.2)]
        rw [if_neg (fun u => q2 u.2)] at k; exact k
    · rw [if_neg (fun u => q u.1)]
      rw [if_neg (fun u => u.1.elim (fun v => q v) (fun v => by cases v))] at k; exact k
  · rw [i_0, i_eq (by omega) (by omega)]; omega
  · have hr : r = true := by
      rw [cr_r0] at h1; simpa using h1
    rw [i_add, pk_rem (by omega) (by omega) (by omega)] at e2
    have em : (a + w) % w = if a < w then a else 0 := by
      rw [Nat.add_mod_right]
      by_cases q : a < w
      · rw [if_pos q, Nat.mod_eq_of_lt q]
      · have : a = w := by omega
        rw [if_neg q, this, Nat.mod_self]
    rw [em] at e2
    rw [e2]
    have lw : (if a < w then a else 0) < w := by split <;> omega
    refine sq_b69n hd hj (by omega) hb ?_
    by_cases q2 : b < h
    · rw [if_pos ⟨lw, q2⟩]
      rw [if_pos ⟨Or.inr hr, q2⟩] at k; exact k
    · rw [if_neg (fun u => q2 u.2)]
      rw [if_neg (fun u => q2 u.2)] at k; exact k
theorem sq_b47m {b : Nat} {s0 s1 : Int32} (hd : jd w h r S) (hj : jr w h r S z) (hY : s1 + s0 = nI b) (hb : b < h) (k : Q (.inl (some (.int (if r = true then nI (8 * b + (w - 1)) else -1)))) z) : wc_X12_beside_47 Q (-1) s0 s1 z := by
  have hw8 := hd.2.1
  have hw1 := hd.1
  have hh8 := hd.2.2.2.1
  unfold wc_X12_beside_47
  intro v1 e1
  rw [hY] at e1
  rw [hj.1.1, hj.1.2.2, e1]
  refine ⟨fun h1 => ?_, fun h1 => ⟨?_, fun v2 e2 => ?_⟩⟩
  · rw [cr_r0] at h1
    refine sq_b69 hd hj ?_
    rw [wi_x, if_neg Bool.false_ne_true]
    rw [h1, if_neg Bool.false_ne_true] at k; exact k
  · rw [i_0, i_eq (by omega) (by omega)]; omega
  · have hr : r = true := by
      rw [cr_r0] at h1; simpa using h1
    rw [Int32.add_comm, i_m1 hw1, pk_rem (by omega) (by omega) (by omega), Nat.mod_eq_of_lt (by omega)] at e2
    rw [e2]
    refine sq_b69n hd hj (by omega) (by omega) ?_
    rw [if_pos ⟨by omega, hb⟩]
    rw [if_pos hr] at k; exact k
theorem sq_b47u {a : Nat} {X s0 s1 : Int32} (hd : jd w h r S) (hj : jr w h r S z) (hX : X = nI a) (hY : s1 + s0 = -1) (ha : a < w) (k : Q (.inl (some (.int (-1)))) z) : wc_X12_beside_47 Q X s0 s1 z := by
  have hw8 := hd.2.1
  have hw1 := hd.1
  unfold wc_X12_beside_47
  intro v1 e1
  rw [hY] at e1
  rw [hj.1.1, hj.1.2.2, e1]
  refine ⟨fun h1 => ?_, fun h1 => ⟨?_, fun v2 e2 => ?_⟩⟩
  · refine sq_b69 hd hj ?_
    rw [wi_y, if_neg Bool.false_ne_true]; exact k
  · rw [i_0, i_eq (by omega) (by omega)]; omega
  · refine sq_b69 hd hj ?_
    rw [wi_y, if_neg Bool.false_ne_true]; exact k
theorem sq_rbes {c k : Nat} (hd : jd w h r S) (hj : jr w h r S z) (hc : c % 8 < w) (hc2 : c / 8 < h) (hk : k < 4) (kk : Q (.inl (some (.int (bo (bs w h r c k))))) z) : wm_X12_beside (nI c) (nI k) z Q := by
  have hw8 := hd.2.1
  have hw1 := hd.1
  have hh8 := hd.2.2.2.1
  have c1 : nI c - nI c / (8 : Int32) * (8 : Int32) = nI (c % 8) := by rw [i_8]; exact pk_rem (by omega) (by omega) (by omega)
  have c2 : nI c / (8 : Int32) = nI (c / 8) := by rw [i_8]; exact pk_div (by omega) (by omega) (by omega)
  have p0 : ∀ a : Nat, nI a + (0 : Int32) = nI a := fun a => by rw [i_0, i_add]; rfl
  have c8 : 8 * (c / 8) + c % 8 = c := by omega
  have k01 : nI k = (0 : Int32) ↔ k = 0 := by rw [i_0]; exact i_eq (by omega) (by omega)
  have k1 : nI k = (1 : Int32) ↔ k = 1 := by rw [i_1]; exact i_eq (by omega) (by omega)
  have k2 : nI k = (2 : Int32) ↔ k = 2 := by rw [i_2]; exact i_eq (by omega) (by omega)
  have k3 : nI k = (3 : Int32) ↔ k = 3 := by rw [i_3]; exact i_eq (by omega) (by omega)
  unfold wm_X12_beside
  rw [c1, k01, k1]
  refine ⟨fun h0 => ⟨fun h1 => ?_, fun h1 => ?_⟩, fun h0 => ?_⟩
  · unfold wc_X12_beside_22
    intro v1 e1
    rw [p0] at e1
    rw [k2, k3, c2]
    refine ⟨fun h2 => ⟨fun h3 => by omega, fun h3 => ?_⟩, fun h2 => ?_⟩
    · subst h3
      have e : bs w h r c 3 = if 0 < c / 8 then some (c - 8) else none := rfl
      rw [e] at kk
      by_cases q : 0 < c / 8
      · rw [if_pos q] at kk
        refine sq_b47 (a := c % 8) (b := c / 8 - 1) hd hj e1 (i_m1 q) (by omega) (by omega) ?_
        rw [if_pos ⟨Or.inl hc, by omega⟩, if_pos hc]
        have : 8 * (c / 8 - 1) + c % 8 = c - 8 := by omega
        rw [this]; exact kk
      · rw [if_neg q] at kk
        have q0 : c / 8 = 0 := by omega
        refine sq_b47u (a := c % 8) hd hj e1 ?_ hc kk
        rw [q0]; decide +kernel
    · subst h2
      have e : bs w h r c 2 = if c / 8 + 1 < h then some (c + 8) else none := rfl
      rw [e] at kk
      refine sq_b47 (a := c % 8) (b := c / 8 + 1) hd hj e1 (by rw [i_1, i_add]) (by omega) (by omega) ?_
      rw [if_pos hc]
      by_cases q : c / 8 + 1 < h
      · rw [if_pos q] at kk
        rw [if_pos ⟨Or.inl hc, q⟩]
        have : 8 * (c / 8 + 1) + c % 8 = c + 8 := by omega
        rw [this]; exact kk
      · rw [if_neg q] at kk
        rw [if_neg (fun u => q u.2)]; exact kk
  · subst h1
    have e : bs w h r c 1 = if 0 < c % 8 then some (c - 1) else if r = true then some (c + (w - 1)) else none := rfl
    rw [e] at kk
    unfold wc_X12_beside_22
    intro v1 e1
    rw [k2, k3, c2]
    refine ⟨fun h2 => ⟨fun h3 => ?_, fun h3 => by omega⟩, fun h2 => by omega⟩
    by_cases q : 0 < c % 8
    · rw [if_pos q] at kk
      rw [i_m1 q] at e1
      refine sq_b47 (a := c % 8 - 1) (b := c / 8) hd hj e1 (p0 _) (by omega) (by omega) ?_
      rw [if_pos ⟨Or.inl (by omega), hc2⟩, if_pos (by omega)]
      have : 8 * (c / 8) + (c % 8 - 1) = c - 1 := by omega
      rw [this]; exact kk
    · rw [if_neg q] at kk
      have q0 : c % 8 = 0 := by omega
      rw [q0] at e1
      have e1' : v1 = -1 := by rw [e1]; decide +kernel
      rw [e1']
      refine sq_b47m (b := c / 8) hd hj (p0 _) hc2 ?_
      have : 8 * (c / 8) + (w - 1) = c + (w - 1) := by omega
      rw [this]
      by_cases hr : r = true
      · rw [if_pos hr] at kk ⊢; exact kk
      · rw [if_neg hr] at kk ⊢; exact kk
  · subst h0
    have e : bs w h r c 0 = if c % 8 + 1 < w then some (c + 1) else if r = true then some (c - (w - 1)) else none := rfl
    rw [e] at kk
    unfold wc_X12_beside_22
    intro v1 e1
    rw [i_1, i_add] at e1
    rw [k2, k3, c2]
    refine ⟨fun h2 => ⟨fun h3 => ?_, fun h3 => by omega⟩, fun h2 => by omega⟩
    refine sq_b47 (a := c % 8 + 1) (b := c / 8) hd hj e1 (p0 _) (by omega) (by omega) ?_
    by_cases q : c % 8 + 1 < w
    · rw [if_pos q] at kk
      rw [if_pos ⟨Or.inl q, hc2⟩, if_pos q]
      have : 8 * (c / 8) + (c % 8 + 1) = c + 1 := by omega
      rw [this]; exact kk
    · rw [if_neg q] at kk
      rw [if_neg q]
      by_cases hr : r = true
      · rw [if_pos hr] at kk
        rw [if_pos ⟨Or.inr hr, hc2⟩]
        have : 8 * (c / 8) + 0 = c - (w - 1) := by omega
        rw [this]; exact kk
      · rw [if_neg hr] at kk
        rw [if_neg (fun u => u.1.elim q hr)]; exact kk
theorem bo_n {o : Option Nat} (h : ∀ x, o = some x → x < 64) : bo o = (-1 : Int32) ↔ o = none := by
  cases o with
  | none => exact ⟨fun _ => rfl, fun _ => rfl⟩
  | some x =>
    refine ⟨fun e => ?_, fun e => (by cases e)⟩
    have hx := h x rfl
    have e2 : nI x = (-1 : Int32) := e
    rw [nu_eq, i_ti (by omega)] at e2
    have : (-1 : Int32).toInt = -1 := by decide +kernel
    omega
theorem sq_noneSeen (k : ∀ z', fr [(2, 61)] z z' → (∀ j, j < 64 → tq_ai z' 61 j = bi false) → Q (.inl none) z') : wm_X12_noneSeen z Q := by
  unfold wm_X12_noneSeen wc_X12_noneSeen_2
  refine lp_inv (fun m s => ∃ z', s = (nI m, z') ∧ fr [(2, 61)] z z' ∧ ∀ j, j < m → tq_ai z' 61 j = bi false) 64 ?_ ⟨z, rfl, fr_r, fun j hj => by omega⟩
  rintro m s hm ⟨z1, rfl, f1, e1⟩ B hB
  simp only
  unfold wb_X12_noneSeen_2
  rw [i_64]
  refine ⟨fun h1 => ?_, fun h1 => ?_⟩
  · rw [i_le (by omega) (by omega)] at h1
    have : m = 64 := by omega
    subst this; exact k z1 f1 e1
  · rw [i_le (by omega) (by omega)] at h1
    refine ⟨i_in (by omega) (by omega), fun z2 q2 v e => ?_⟩
    rw [i_1, i_add] at e
    subst e
    refine hB (by omega) _ ⟨z2, rfl, by rw [q2]; exact fr_sai (by decide) f1, fun j hj => ?_⟩
    rw [q2, rw_aie, rw_upd, i_cl (by omega)]
    by_cases hjm : j = m
    · rw [if_pos hjm]; decide +kernel
    · rw [if_neg hjm]; exact e1 j (by omega)
/-- one more cell is seen; its place in the queue is free -/
theorem sq_see {c n : Nat} (hc : c < 64) (hn : n < 64) (hq : tq_fi z 3282 = nI n) (k : ∀ z', fr [(2, 61), (2, 62), (0, 3282)] z z' → (∀ j, tq_ai z' 61 j = if j = c then bi true else tq_ai z 61 j) → (∀ j, tq_ai z' 62 j = if j = n then nI c else tq_ai z 62 j) → tq_fi z' 3282 = nI (n + 1) → Q (.inl none) z') : wm_X12_see (nI c) z Q := by
  unfold wm_X12_see
  refine ⟨i_in (by omega) (by omega), fun z1 e1 => ?_⟩
  rw [i_cl (by omega)] at e1
  have q1 : tq_fi z1 3282 = nI n := by rw [e1]; exact hq
  rw [q1]
  refine ⟨i_in (by omega) (by omega), fun z2 e2 z3 e3 => ?_⟩
  rw [i_cl (by omega)] at e2
  have q2 : tq_fi z2 3282 = nI n := by rw [e2]; exact q1
  rw [q2, i_1, i_add] at e3
  subst e3; subst e2; subst e1
  refine k _ (fr_sfi (by decide) (fr_sai (by decide) (fr_sai (by decide) fr_r))) (fun j => ?_) (fun j => ?_) rfl
  · show upd (tq_ai z 61) c (vp_nar .boolean (1 : Int32)) j = _
    rw [rw_upd]
    have : vp_nar .boolean (1 : Int32) = bi true := bi_v (b := true)
    rw [this]
  · show upd (tq_ai z 62) n (nI c) j = _
    rw [rw_upd]
end RBES
