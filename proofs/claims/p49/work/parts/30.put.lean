/-! ===== big numbers are put ===== -/
theorem up_sp (L : Nat → Nat) (b : Nat) : ∀ a i, up L (a + b) i = up L a i + 1000000000 ^ a * up L b (i + a)
  | 0, i => by rw [Nat.zero_add, Nat.pow_zero, Nat.one_mul]; show _ = 0 + _; rw [Nat.zero_add]; rfl
  | a + 1, i => by
    have e : a + 1 + b = (a + b) + 1 := by omega
    rw [e]
    show L i + 1000000000 * up L (a + b) (i + 1) = L i + 1000000000 * up L a (i + 1) + _
    have e2 : i + 1 + a = i + (a + 1) := by omega
    rw [up_sp L b a (i + 1), Nat.mul_add, ← Nat.mul_assoc, Nat.mul_comm 1000000000 (1000000000 ^ a), ← Nat.pow_succ, e2, ← Nat.add_assoc]
theorem up_c {L M : Nat → Nat} : ∀ n i, (∀ j, i ≤ j → j < i + n → L j = M j) → up L n i = up M n i
  | 0, _, _ => rfl
  | n + 1, i, h => by
    show L i + 1000000000 * up L n (i + 1) = M i + 1000000000 * up M n (i + 1)
    rw [h i (Nat.le_refl _) (by omega), up_c n (i + 1) (fun j h1 h2 => h j (by omega) (by omega))]
def dl (n k : Nat) : Nat := n / 1000000000 ^ k % 1000000000
theorem up_dl (n : Nat) : ∀ u i, up (dl n) u i = n / 1000000000 ^ i % 1000000000 ^ u
  | 0, i => by rw [Nat.pow_zero, Nat.mod_one]; rfl
  | u + 1, i => by
    show dl n i + 1000000000 * up (dl n) u (i + 1) = _
    rw [up_dl n u (i + 1), Nat.pow_succ, ← Nat.div_div_eq_div_mul, Nat.pow_succ, Nat.mul_comm (1000000000 ^ u) 1000000000, Nat.mod_mul]
    rfl
section PUT
variable {z : tq_S} {Q : tq_O → tq_S → Prop} {L : Nat → Nat} {u : Nat}
/-- limbs are put behind those that there are -/
theorem sq_addLimbs {c : Nat} (hc : c < 9223372036854775808) (hb : bn L u z) (hu : u + 3 ≤ 34) (k : ∀ z' L' u', fr [(0, 2945), (2, 47)] z z' → bn L' u' z' → u ≤ u' → u' ≤ u + 3 → (∀ i, i < u → L' i = L i) → bnum L' u' = bnum L u + 1000000000 ^ u * c → (0 < c → u < u') → (∀ i, u ≤ i → i < u' → L' i = dl c (i - u)) → Q (.inl none) z') : wm_X0_addLimbs (lN c) z Q := by
  obtain ⟨u34, hu1, hL⟩ := hb
  have fin : ∀ m z', m ≤ 3 → fr [(0, 2945), (2, 47)] z z' → bn (fun i => if i < u then L i else dl c (i - u)) (u + m) z' → c / 1000000000 ^ m = 0 → Q (.inl none) z' := by
    intro m z' hm f b e
    refine k z' _ _ f b (by omega) (by omega) (fun i hi => if_pos hi) ?_ (fun hc0 => ?_) (fun i h1 h2 => if_neg (by omega))
    · unfold bnum
      rw [up_sp, up_c u 0 (M := L) (fun j h1 h2 => if_pos (by omega)), Nat.zero_add]
      congr 2
      have e1 : up (fun i => if i < u then L i else dl c (i - u)) m u = up (dl c) m 0 := by
        have : ∀ m a, up (fun i => if i < u then L i else dl c (i - u)) m (u + a) = up (dl c) m a := by
          intro m
          induction m with
          | zero => intro a; rfl
          | succ m ih =>
            intro a
            show (if u + a < u then L (u + a) else dl c (u + a - u)) + 1000000000 * up _ m (u + a + 1) = dl c a + 1000000000 * up (dl c) m (a + 1)
            have a1 : u + a - u = a := by omega
            rw [if_neg (by omega), a1, Nat.add_assoc u a 1, ih (a + 1)]
        exact this m 0
      rw [e1, up_dl, Nat.pow_zero, Nat.div_one]
      have h2 : c < 1000000000 ^ m := by
        have h3 := Nat.div_add_mod c (1000000000 ^ m)
        have h4 : c % 1000000000 ^ m < 1000000000 ^ m := Nat.mod_lt _ (Nat.pow_pos (by omega))
        rw [e, Nat.mul_zero, Nat.zero_add] at h3
        omega
      exact Nat.mod_eq_of_lt h2
    · rcases Nat.eq_zero_or_pos m with q | q
      · subst q
        rw [Nat.pow_zero, Nat.div_one] at e
        omega
      · omega
  unfold wm_X0_addLimbs wc_X0_addLimbs_5
  refine lp_inv (fun m s => ∃ z', s = (lN (c / 1000000000 ^ m), nI m, z') ∧ fr [(0, 2945), (2, 47)] z z' ∧ bn (fun i => if i < u then L i else dl c (i - u)) (u + m) z') 3 ?_ ⟨z, by rw [Nat.pow_zero, Nat.div_one]; rfl, fr_r, u34, hu1, fun i hi => by
    have hi' : i < u := by omega
    show _ = nI (if i < u then L i else dl c (i - u)) ∧ (if i < u then L i else dl c (i - u)) < 1000000000
    rw [if_pos hi']; exact hL i hi'⟩
  rintro m s hm ⟨z1, rfl, f1, b1⟩ B hB
  simp only
  have clt : c / 1000000000 ^ m < 9223372036854775808 := Nat.lt_of_le_of_lt (Nat.div_le_self _ _) hc
  unfold wb_X0_addLimbs_5
  rw [i_3]
  refine ⟨fun h1 => ?_, fun h1 => ⟨fun h2 => ?_, fun h2 => ⟨fun h3 => ?_, fun h3 => ?_⟩⟩⟩
  · rw [i_le (by omega) (by omega)] at h1
    have : m = 3 := by omega
    subst this
    refine fin 3 z1 (by omega) f1 b1 ?_
    have : (1000000000 : Nat) ^ 3 = 1000000000000000000000000000 := by decide
    rw [this]
    exact Nat.div_eq_of_lt (by omega)
  · rw [l_le0 clt] at h2
    exact fin m z1 hm f1 b1 h2
  · rw [b1.2.1, show (34 : Int32) = nI 34 from rfl, i_le (by omega) (by omega)] at h3
    rw [i_le (by omega) (by omega)] at h1
    omega
  · rw [i_le (by omega) (by omega)] at h1
    rw [b1.2.1]
    refine ⟨i_in (by omega) (by omega), fun z2 e2 v e3 z3 e4 v4 e5 => ?_⟩
    rw [i_cl (by omega), show (1000000000 : Int64) = lN 1000000000 from rfl, pk_lRem (by omega) (by omega) (by omega), l_t32] at e2
    rw [show (1000000000 : Int64) = lN 1000000000 from rfl, pk_lDiv (by omega) (by omega) (by omega), Nat.div_div_eq_div_mul, ← Nat.pow_succ] at e3
    have q2 : tq_fi z2 2945 = nI (u + m) := by rw [e2]; exact b1.2.1
    rw [q2, i_1, i_add] at e4
    rw [i_1, i_add] at e5
    subst e3; subst e5
    refine hB (by omega) _ ⟨z3, rfl, ?_, by omega, ?_, fun i hi => ?_⟩
    · rw [e4]; refine fr_sfi (by decide) ?_; rw [e2]; exact fr_sai (by decide) f1
    · rw [e4, rw_fie]; rfl
    · have e6 : tq_ai z3 47 i = if i = u + m then nI (c / 1000000000 ^ m % 1000000000) else tq_ai z1 47 i := by
        rw [e4]
        show tq_ai z2 47 i = _
        rw [e2, rw_aie, rw_upd]
      rw [e6]
      by_cases q : i = u + m
      · rw [if_pos q]
        show _ = nI (if i < u then L i else dl c (i - u)) ∧ (if i < u then L i else dl c (i - u)) < 1000000000
        rw [if_neg (by omega)]
        have a1 : i - u = m := by omega
        rw [a1]
        exact ⟨rfl, Nat.mod_lt _ (by omega)⟩
      · rw [if_neg q]
        exact b1.2.2 i (by omega)
theorem sp_absl {a : Int64} {z : tq_S} {Q : tq_O → tq_S → Prop} (k : Q (.inl (some (.long (if (0 : Int64) ≤ a then a else -a)))) z) : wm_J9_abs_067f4 a z Q := by
  unfold wm_J9_abs_067f4
  refine ⟨fun h => ?_, fun h => ?_⟩
  · rw [if_pos h] at k; exact k
  · rw [if_neg h] at k; exact k
theorem ln_le {neg : Bool} {n : Nat} (h1 : n < 9223372036854775808) (h2 : neg = true → 0 < n) : (0 : Int64) ≤ ln neg n ↔ neg = false := by
  cases hn : neg
  · refine ⟨fun _ => rfl, fun _ => ?_⟩
    show (0 : Int64) ≤ lN n
    rw [show (0 : Int64) = lN 0 from rfl, pk_lLE (by omega) (by omega)]; omega
  · refine ⟨fun q => absurd q (l_neg (h2 hn) h1).1, fun q => (by cases q)⟩
theorem ln_abs {neg : Bool} {n : Nat} (h1 : n < 9223372036854775808) (h2 : neg = true → 0 < n) : (if (0 : Int64) ≤ ln neg n then ln neg n else -(ln neg n)) = lN n := by
  by_cases q : (0 : Int64) ≤ ln neg n
  · rw [if_pos q]
    rw [ln_le h1 h2] at q
    rw [q]; rfl
  · rw [if_neg q]
    rw [ln_le h1 h2] at q
    have hn : neg = true := by simpa using q
    rw [hn]
    exact (l_neg (h2 hn) h1).2
theorem sq_cput {neg : Bool} {n : Nat} (h1 : n < 9223372036854775808) (h2 : neg = true → 0 < n) (k : ∀ z' L u, fr [(0, 2945), (0, 2946), (2, 47)] z z' → bn L u z' → u ≤ 3 → (0 < n → 0 < u) → (∀ i, i < u → L i = dl n i) → tq_fi z' 2946 = bi neg → bnum L u = n → Q (.inl none) z') : wm_X0_put (ln neg n) z Q := by
  have main : wc_X0_put_12 Q (ln neg n) (bi neg) z := by
    unfold wc_X0_put_12
    refine ⟨bi_z, fun z1 e1 z2 e2 => ?_⟩
    refine sp_absl ⟨_, rfl, ?_⟩
    rw [ln_abs h1 h2]
    have f2 : fr [(0, 2945), (0, 2946), (2, 47)] z z2 := by rw [e2]; refine fr_sfi (by decide) ?_; rw [e1]; exact fr_sfi (by decide) fr_r
    have b2 : bn (fun _ => 0) 0 z2 := ⟨by omega, by rw [e2]; rfl, fun i hi => by omega⟩
    refine sq_addLimbs h1 b2 (by omega) (fun z3 L' u' f3 b3 l1 l2 l3 l4 l5 l6 => ⟨rfl, ?_⟩)
    have l4' : bnum L' u' = n := by
      rw [l4, Nat.pow_zero, Nat.one_mul]
      show 0 + n = n
      omega
    refine k z3 L' u' (fr_t f2 (fr_m (by decide) f3)) b3 (by omega) (fun q => l5 q) (fun i hi => l6 i (Nat.zero_le _) hi) ?_ l4'
    rw [fr_fi f3 (by decide), e2, e1]; rfl
  unfold wm_X0_put
  rw [ln_le h1 h2]
  refine ⟨fun q => ?_, fun q => ?_⟩
  · rw [q] at main ⊢; exact main
  · have hn : neg = true := by simpa using q
    rw [hn] at main ⊢; exact main
/-- the class's text -/
def ctx (z : tq_S) (l : List Nat) : Prop := tq_fi z 13 = nI l.length ∧ tx (tq_ai z 50) l ∧ l.length ≤ 307
theorem sq_sayA {neg : Bool} (hb : bn L u z) (hn : tq_fi z 2946 = bi neg) (k : ∀ z', fr [(0, 13), (2, 50)] z z' → ctx z' (tn neg (bnum L u)) → Q (.inl (some (.int (nI (tn neg (bnum L u)).length)))) z') : wm_X11_sayAnswer z Q := by
  unfold wm_X11_sayAnswer
  refine sq_writeTo hb hn (fun z1 f1 t1 l1 => ⟨_, rfl, fun z2 e2 => ?_⟩)
  have e3 : tq_fi z2 13 = nI (tn neg (bnum L u)).length := by rw [e2]; rfl
  rw [e3]
  refine k z2 (by rw [e2]; exact fr_sfi (by decide) (fr_m (by decide) f1)) ⟨e3, ?_, l1⟩
  rw [e2]; exact t1
def FT : List (Nat × Nat) := [(0, 2945), (0, 2946), (2, 47), (0, 13), (2, 50)]
theorem sq_say {neg : Bool} {n : Nat} (h1 : n < 9223372036854775808) (h2 : neg = true → 0 < n) (k : ∀ z', fr FT z z' → ctx z' (tn neg n) → Q (.inl (some (.int (nI (tn neg n).length)))) z') : wm_X11_say (ln neg n) z Q := by
  unfold wm_X11_say
  refine sq_cput h1 h2 (fun z1 L u f1 b1 _ _ _ n1 v1 => ⟨rfl, ?_⟩)
  refine sq_sayA b1 n1 (fun z2 f2 t2 => ⟨_, rfl, ?_⟩)
  rw [v1] at t2 ⊢
  exact k z2 (fr_t (fr_m (by decide) f1) (fr_m (by decide) f2)) t2
end PUT
