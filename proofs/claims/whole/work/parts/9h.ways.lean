/-! ===== the ways to every row, told without slots ===== -/
section LWT
variable {w h : Nat} {S : Nat → Bool}
def gw (w : Nat) : Nat := 2 ^ (2 * w + 2)
noncomputable def lstp (w h : Nat) (S : Nat → Bool) (x y : Nat) (W : Nat → Nat) (t : Nat) : Nat := fb_sm (fun s => W s * (trB w h S x y (if x = 0 then 4 * s else s)).count t) (gw w)
noncomputable def lcl (w h : Nat) (S : Nat → Bool) (x y : Nat) (W : Nat → Nat) : Nat := fb_sm (fun s => W s * cloB w h S x y (if x = 0 then 4 * s else s)) (gw w)
noncomputable def lrow (w h : Nat) (S : Nat → Bool) (y : Nat) (W : Nat → Nat) : Nat → Nat → Nat
  | 0 => W
  | x + 1 => lstp w h S x y (lrow w h S y W x)
noncomputable def crow (w h : Nat) (S : Nat → Bool) (y : Nat) (W : Nat → Nat) (c : Nat) : Nat → Nat
  | 0 => c
  | x + 1 => crow w h S y W c x + lcl w h S x y (lrow w h S y W x)
noncomputable def lall (w h : Nat) (S : Nat → Bool) : Nat → Nat → Nat
  | 0 => fun s => if s = 0 then 1 else 0
  | y + 1 => lrow w h S y (lall w h S y) w
noncomputable def call (w h : Nat) (S : Nat → Bool) : Nat → Nat
  | 0 => 0
  | y + 1 => crow w h S y (lall w h S y) (call w h S y) w
theorem tr_end {c d : Bool} {x s : Nat} (hb : bal (x + 2) s) {t : Nat} (ht : t ∈ tr c false d x s) : pg t (x + 1) = 0 := by
  have nx : pg (non s x) (x + 1) = 0 := by rw [pg_non, if_pos rfl]
  unfold tr at ht
  by_cases h1 : c = false
  · rw [if_pos h1] at ht
    by_cases h2 : pg s x = 0 ∧ pg s (x + 1) = 0
    · rw [if_pos h2] at ht
      rw [List.mem_singleton.mp ht]; exact h2.2
    · rw [if_neg h2] at ht; cases ht
  rw [if_neg h1] at ht
  by_cases h2 : pg s x = 0 ∧ pg s (x + 1) = 0
  · rw [if_pos h2, if_neg (by simp)] at ht; cases ht
  rw [if_neg h2] at ht
  by_cases h3 : pg s x = 0 ∨ pg s (x + 1) = 0
  · rw [if_pos h3, if_neg (show ¬ false = true by simp), List.append_nil] at ht
    have a4 := pg_4 s x
    have b4 := pg_4 s (x + 1)
    by_cases h4 : d = true
    · rw [if_pos h4] at ht
      rw [List.mem_singleton.mp ht, pg_putE (by omega), if_neg (by omega)]; exact nx
    · rw [if_neg h4] at ht; cases ht
  rw [if_neg h3] at ht
  by_cases h4 : pg s x = 1 ∧ pg s (x + 1) = 1
  · obtain ⟨m, m1, m2, _⟩ := mate_r hb h4.2
    omega
  rw [if_neg h4] at ht
  by_cases h5 : pg s x = 2 ∧ pg s (x + 1) = 2
  · rw [if_pos h5] at ht
    obtain ⟨m, m1, m2, m3, m4⟩ := mate_l hb h5.1
    rw [List.mem_singleton.mp ht, mL_e ⟨m1, m2, m3, m4⟩, pg_putE (by omega), if_neg (by omega)]; exact nx
  rw [if_neg h5] at ht
  by_cases h6 : pg s x = 2
  · rw [if_pos h6] at ht
    rw [List.mem_singleton.mp ht]; exact nx
  · rw [if_neg h6] at ht; cases ht
theorem sm_is (a : Nat) : ∀ M, fb_sm (fun t => if a = t then 1 else 0) M = if a < M then 1 else 0
  | 0 => (if_neg (by omega)).symm
  | M + 1 => by
    rw [fb_sm_succ, sm_is a M]
    by_cases q : a = M
    · rw [if_neg (by omega), if_pos q, if_pos (by omega)]
    · rw [if_neg q, Nat.add_zero]
      by_cases q2 : a < M
      · rw [if_pos q2, if_pos (by omega)]
      · rw [if_neg q2, if_neg (by omega)]
theorem sm_count (M : Nat) : ∀ L : List Nat, fb_sm (fun t => L.count t) M ≤ L.length
  | [] => by
    have : fb_sm (fun t => ([] : List Nat).count t) M = fb_sm (fun _ => 0) M := fb_sm_cong (fun t _ => List.count_nil)
    rw [this, fb_sm_const, Nat.mul_zero]; exact Nat.zero_le _
  | a :: L => by
    have : fb_sm (fun t => (a :: L).count t) M = fb_sm (fun t => L.count t + if a = t then 1 else 0) M := fb_sm_cong (fun t _ => by
      rw [List.count_cons]
      by_cases q : a = t
      · rw [if_pos q, if_pos (by rw [q]; exact beq_self_eq_true t)]
      · rw [if_neg q, if_neg (by rw [beq_iff_eq]; exact q)])
    rw [this, fb_sm_add, sm_is, List.length_cons]
    have := sm_count M L
    split <;> omega
theorem sm_ex {f : Nat → Nat} : ∀ {n : Nat}, fb_sm f n ≠ 0 → ∃ k, k < n ∧ f k ≠ 0
  | 0, e => absurd rfl e
  | n + 1, e => by
    rw [fb_sm_succ] at e
    by_cases q : f n = 0
    · obtain ⟨k, k1, k2⟩ := sm_ex (f := f) (n := n) (by omega)
      exact ⟨k, by omega, k2⟩
    · exact ⟨n, by omega, q⟩
def LG (w : Nat) (S : Nat → Bool) (x y : Nat) (W : Nat → Nat) : Prop := (∀ s, W s ≠ 0 → bal (w + 1) s ∧ (x = 0 ∨ x = w → bal w s)) ∧ fb_sm W (gw w) ≤ 2 ^ fb_ct S (8 * y + x)
theorem lst_in {r : Bool} {x y : Nat} {W : Nat → Nat} (hd : jd w h r S) (hx : x < w) (hy : y < h) (hg : LG w S x y W) : LG w S (x + 1) y (lstp w h S x y W) := by
  have hw8 := hd.2.1
  have hh8 := hd.2.2.2.1
  obtain ⟨g1, g2⟩ := hg
  have rb : ∀ s, W s ≠ 0 → bal (w + 1) (if x = 0 then 4 * s else s) := fun s hs => by
    by_cases q : x = 0
    · rw [if_pos q]; exact bal_sh ((g1 s hs).2 (Or.inl q))
    · rw [if_neg q]; exact (g1 s hs).1
  refine ⟨fun t ht => ?_, ?_⟩
  · obtain ⟨s, -, e⟩ := sm_ex ht
    have hs : W s ≠ 0 := fun q => e (by rw [q, Nat.zero_mul])
    have hc : (trB w h S x y (if x = 0 then 4 * s else s)).count t ≠ 0 := fun q => e (by rw [q, Nat.mul_zero])
    have hm : t ∈ trB w h S x y (if x = 0 then 4 * s else s) := List.count_pos_iff.mp (by omega)
    have b1 : bal (w + 1) t := tr_bal (rb s hs) (by omega) hm
    refine ⟨b1, fun q => ?_⟩
    have xw : x + 1 = w := by omega
    refine bal_dn b1 ?_
    unfold trB at hm
    rw [i_1, i_add, ho_n (a := x + 1) (by omega) (by omega), decide_eq_false (show ¬ x + 1 < w by omega), Bool.false_and, Bool.false_and] at hm
    rw [← xw]
    refine tr_end ?_ hm
    rw [show x + 2 = w + 1 by omega]
    exact rb s hs
  · have e1 : fb_sm (lstp w h S x y W) (gw w) ≤ fb_sm (fun s => W s * (if S (8 * y + x) = true then 2 else 1)) (gw w) := by
      unfold lstp
      rw [sm_swp2]
      refine fb_sm_le (fun s _ => ?_)
      rw [sm_mul]
      refine Nat.mul_le_mul_left _ (Nat.le_trans (sm_count _ _) ?_)
      refine Nat.le_trans (tr_len _ _ _ _ _) ?_
      rw [ho_n (by omega) (by omega), decide_eq_true hx, decide_eq_true hy, Bool.true_and, Bool.true_and]
      exact Nat.le_refl _
    rw [sm_mulr] at e1
    rw [show 8 * y + (x + 1) = 8 * y + x + 1 by omega, fb_ct_succ]
    by_cases q : S (8 * y + x) = true
    · rw [if_pos q] at e1
      rw [if_pos q, Nat.pow_succ]; omega
    · rw [if_neg q] at e1
      rw [if_neg q, Nat.add_zero]; omega
theorem lrow_in {r : Bool} {y : Nat} {W : Nat → Nat} (hd : jd w h r S) (hy : y < h) (hg : LG w S 0 y W) : ∀ x, x ≤ w → LG w S x y (lrow w h S y W x)
  | 0, _ => hg
  | x + 1, hx => lst_in hd (by omega) hy (lrow_in hd hy hg x (by omega))
theorem lall_in {r : Bool} (hd : jd w h r S) : ∀ y, y ≤ h → LG w S 0 y (lall w h S y)
  | 0, _ => by
    refine ⟨fun s hs => ?_, ?_⟩
    · have : s = 0 := Classical.byContradiction fun q => hs (if_neg q)
      rw [this]
      exact ⟨bal_0 _, fun _ => bal_0 _⟩
    · have e : fb_sm (lall w h S 0) (gw w) = fb_sm (fun t => if 0 = t then 1 else 0) (gw w) := fb_sm_cong (fun t _ => by
        show (if t = 0 then 1 else 0) = _
        by_cases q : t = 0
        · rw [if_pos q, if_pos q.symm]
        · rw [if_neg q, if_neg (fun e => q e.symm)])
      rw [e, sm_is]
      have := Nat.one_le_two_pow (n := fb_ct S (8 * 0 + 0))
      split <;> omega
  | y + 1, hy => by
    have hw := hd.1
    have hw8 := hd.2.1
    obtain ⟨a, b⟩ := lrow_in hd (y := y) (by omega) (lall_in hd y (by omega)) w (Nat.le_refl _)
    refine ⟨fun s hs => ⟨(a s hs).1, fun _ => (a s hs).2 (Or.inr rfl)⟩, Nat.le_trans b (Nat.pow_le_pow_right (by omega) (fb_ct_mono _ (by omega)))⟩
theorem cloB_1 (x y s : Nat) : cloB w h S x y s ≤ 1 := by
  unfold cloB
  split <;> omega
theorem lcl_b (x y : Nat) (W : Nat → Nat) : lcl w h S x y W ≤ fb_sm W (gw w) := fb_sm_le (fun s _ => by
  have := Nat.mul_le_mul_left (W s) (cloB_1 (w := w) (h := h) (S := S) x y (if x = 0 then 4 * s else s))
  omega)
/-- no more than so many ways at any time -/
theorem lg_b {x y : Nat} {W : Nat → Nat} (hg : LG w S x y W) (hs : fb_ct S 64 ≤ 36) (hx : x ≤ 8) (hy : 8 * y + x ≤ 64) : fb_sm W (gw w) ≤ 2 ^ 36 := Nat.le_trans hg.2 (Nat.pow_le_pow_right (by decide) (Nat.le_trans (fb_ct_mono S hy) hs))
theorem crow_b {r : Bool} {y c : Nat} {W : Nat → Nat} (hd : jd w h r S) (hy : y < h) (hs : fb_ct S 64 ≤ 36) (hg : LG w S 0 y W) : ∀ x, x ≤ w → crow w h S y W c x ≤ c + x * 2 ^ 36
  | 0, _ => by show c ≤ _; omega
  | x + 1, hx => by
    have hw8 := hd.2.1
    have hh8 := hd.2.2.2.1
    have i := crow_b (c := c) hd hy hs hg x (by omega)
    have b := Nat.le_trans (lcl_b (w := w) (h := h) (S := S) x y (lrow w h S y W x)) (lg_b (lrow_in hd hy hg x (by omega)) hs (by omega) (by omega))
    show crow w h S y W c x + lcl w h S x y (lrow w h S y W x) ≤ _
    omega
theorem call_b {r : Bool} (hd : jd w h r S) (hs : fb_ct S 64 ≤ 36) : ∀ y, y ≤ h → call w h S y ≤ y * 2 ^ 39
  | 0, _ => Nat.zero_le _
  | y + 1, hy => by
    have hw8 := hd.2.1
    have i := call_b hd hs y (by omega)
    have b := crow_b (c := call w h S y) hd (y := y) (by omega) hs (lall_in hd y (by omega)) w (Nat.le_refl _)
    show crow w h S y (lall w h S y) (call w h S y) w ≤ _
    omega
theorem bal_gw {w s : Nat} (hb : bal (w + 1) s) : s < gw w := by
  have := bal_lt hb
  unfold gw
  rw [show 2 * w + 2 = 2 * (w + 1) by omega]; exact this
end LWT
