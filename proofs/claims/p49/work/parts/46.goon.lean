/-! ===== come: the sums ===== -/
def hD (w h : Nat) (r : Bool) (S : Nat → Bool) (x y : Nat) (C : Nat → Nat) (m n : Nat) : Nat := fb_sm (fun k => if af w h r S x y (k / 4) (k % 4) = some n then C (k / 4) else 0) m
def hdx (w x y way : Nat) : Nat := if way = 1 then 2 * (8 * y + x) else if way = 2 then 2 * (8 * y + x) + 1 else if way = 3 then 2 * (8 * y + (w - 1)) else 1000
noncomputable def hT (w h : Nat) (r : Bool) (S : Nat → Bool) (x y : Nat) (C : Nat → Nat) (m i : Nat) : Nat := fb_sm (fun k => if hdx w x y (k % 4) = i then C (k / 4) * vo w r S (x + 1) y (af w h r S x y (k / 4) (k % 4)) else 0) m
section SUMS
variable {w h : Nat} {r : Bool} {S : Nat → Bool} {x y s : Nat} {C : Nat → Nat}
theorem fb_sm_0 (n : Nat) : fb_sm (fun _ => 0) n = 0 := by rw [fb_sm_const]; omega
theorem hD_S (m n : Nat) : hD w h r S x y C (m + 1) n = hD w h r S x y C m n + (if af w h r S x y (m / 4) (m % 4) = some n then C (m / 4) else 0) := rfl
theorem hT_S (m i : Nat) : hT w h r S x y C (m + 1) i = hT w h r S x y C m i + (if hdx w x y (m % 4) = i then C (m / 4) * vo w r S (x + 1) y (af w h r S x y (m / 4) (m % 4)) else 0) := rfl
theorem hD_sum (N M : Nat) (G : Nat → Nat) (oG : Option Nat → Nat) (h0 : oG none = 0) (h1 : ∀ n, oG (some n) = G n) (hlt : ∀ st way n, st < M → way < 4 → af w h r S x y st way = some n → n < N) : ∀ m, m ≤ 4 * M → fb_sm (fun n => hD w h r S x y C m n * G n) N = fb_sm (fun k => C (k / 4) * oG (af w h r S x y (k / 4) (k % 4))) m := by
  intro m
  induction m with
  | zero =>
    intro _
    have : fb_sm (fun n => hD w h r S x y C 0 n * G n) N = fb_sm (fun _ => 0) N := fb_sm_cong (fun k _ => by show 0 * _ = 0; omega)
    rw [this, fb_sm_0]; rfl
  | succ m ih =>
    intro hm
    rw [fb_sm_succ (fun k => C (k / 4) * oG (af w h r S x y (k / 4) (k % 4))) m, ← ih (by omega)]
    cases e : af w h r S x y (m / 4) (m % 4) with
    | none =>
      rw [h0, Nat.mul_zero, Nat.add_zero]
      refine fb_sm_cong (fun k _ => ?_)
      rw [hD_S, e, if_neg (by intro u; cases u), Nat.add_zero]
    | some n0 =>
      have hn0 := hlt _ _ _ (by omega) (by omega) e
      have u := fb_sm_upd (fun n => hD w h r S x y C m n * G n) ((hD w h r S x y C m n0 + C (m / 4)) * G n0) hn0
      have e2 : fb_sm (fun n => hD w h r S x y C (m + 1) n * G n) N = fb_sm (fun k => if k = n0 then (hD w h r S x y C m n0 + C (m / 4)) * G n0 else hD w h r S x y C m k * G k) N := by
        refine fb_sm_cong (fun k _ => ?_)
        rw [hD_S, e]
        by_cases q : k = n0
        · subst q; rw [if_pos rfl, if_pos rfl]
        · rw [if_neg (fun u => q (Option.some.inj u).symm), if_neg q, Nat.add_zero]
      rw [e2, h1]
      have e3 : (hD w h r S x y C m n0 + C (m / 4)) * G n0 = hD w h r S x y C m n0 * G n0 + C (m / 4) * G n0 := Nat.add_mul _ _ _
      rw [e3] at u ⊢
      have u2 : fb_sm (fun n => hD w h r S x y C m n * G n) N + (hD w h r S x y C m n0 * G n0 + C (m / 4) * G n0) = fb_sm (fun k => if k = n0 then hD w h r S x y C m n0 * G n0 + C (m / 4) * G n0 else hD w h r S x y C m k * G k) N + hD w h r S x y C m n0 * G n0 := u.symm
      omega
theorem sum4 (F : Nat → Nat → Nat) : ∀ s, fb_sm (fun k => C (k / 4) * F (k / 4) (k % 4)) (4 * s) = fb_sm (fun st => C st * (F st 0 + F st 1 + F st 2 + F st 3)) s := by
  intro s
  induction s with
  | zero => rfl
  | succ s ih =>
    have : 4 * (s + 1) = 4 * s + 1 + 1 + 1 + 1 := by omega
    rw [this, fb_sm_succ, fb_sm_succ, fb_sm_succ, fb_sm_succ, fb_sm_succ, ih]
    have a0 : 4 * s / 4 = s := by omega
    have a1 : (4 * s + 1) / 4 = s := by omega
    have a2 : (4 * s + 1 + 1) / 4 = s := by omega
    have a3 : (4 * s + 1 + 1 + 1) / 4 = s := by omega
    have b0 : 4 * s % 4 = 0 := by omega
    have b1 : (4 * s + 1) % 4 = 1 := by omega
    have b2 : (4 * s + 1 + 1) % 4 = 2 := by omega
    have b3 : (4 * s + 1 + 1 + 1) % 4 = 3 := by omega
    rw [a0, a1, a2, a3, b0, b1, b2, b3, Nat.mul_add, Nat.mul_add, Nat.mul_add]
    omega
theorem hT_sum (i m : Nat) : hT w h r S x y C m i = fb_sm (fun k => C (k / 4) * (if hdx w x y (k % 4) = i then vo w r S (x + 1) y (af w h r S x y (k / 4) (k % 4)) else 0)) m := by
  unfold hT
  refine fb_sm_cong (fun k _ => ?_)
  by_cases q : hdx w x y (k % 4) = i
  · rw [if_pos q, if_pos q]
  · rw [if_neg q, if_neg q, Nat.mul_zero]
/-- a state that is never come to gives nothing -/
theorem hD_skip (c0 : lN (C s) = 0) (n : Nat) : ∀ k, k ≤ 4 → lN (hD w h r S x y C (4 * s + k) n) = lN (hD w h r S x y C (4 * s) n) := by
  intro k
  induction k with
  | zero => intro _; rfl
  | succ k ih =>
    intro hk
    have a : (4 * s + k) / 4 = s := by omega
    show lN (hD w h r S x y C (4 * s + k + 1) n) = _
    rw [hD_S, a, ← l_add, ih (by omega)]
    split
    · rw [c0, Int64.add_zero]
    · rw [← l_0, Int64.add_zero]
theorem hT_skip (c0 : lN (C s) = 0) (n : Nat) : ∀ k, k ≤ 4 → lN (hT w h r S x y C (4 * s + k) n) = lN (hT w h r S x y C (4 * s) n) := by
  intro k
  induction k with
  | zero => intro _; rfl
  | succ k ih =>
    intro hk
    have a : (4 * s + k) / 4 = s := by omega
    show lN (hT w h r S x y C (4 * s + k + 1) n) = _
    rw [hT_S, a, ← l_add, ih (by omega)]
    split
    · rw [← l_mul, c0, Int64.zero_mul, Int64.add_zero]
    · rw [← l_0, Int64.add_zero]
theorem hD_sup : ∀ m n, hD w h r S x y C m n ≠ 0 → ∃ st way, st ≤ m / 4 ∧ way < 4 ∧ af w h r S x y st way = some n ∧ C st ≠ 0 := by
  intro m
  induction m with
  | zero => intro n e; exact absurd rfl e
  | succ m ih =>
    intro n e
    by_cases q : hD w h r S x y C m n = 0
    · have e2 : (if af w h r S x y (m / 4) (m % 4) = some n then C (m / 4) else 0) ≠ 0 := by
        intro u
        apply e
        rw [hD_S, q, u]
      by_cases q2 : af w h r S x y (m / 4) (m % 4) = some n
      · rw [if_pos q2] at e2
        exact ⟨m / 4, m % 4, by omega, by omega, q2, e2⟩
      · rw [if_neg q2] at e2; exact absurd rfl e2
    · obtain ⟨st, way, a1, a2, a3, a4⟩ := ih n q
      exact ⟨st, way, by omega, a2, a3, a4⟩
end SUMS
section GOON
variable {w h : Nat} {r : Bool} {S : Nat → Bool} {z : tq_S} {Q : tq_O → tq_S → Prop} {x y : Nat} {C : Nat → Nat}
theorem sq_goOn (hd : jd w h r S) (hj : jc w h r S z) (hx : x < w) (hy : y < h) (hf : fce w r S none y 0 z) (hc : ∀ st, st < 512 → tq_al z 5 st = lN (C st)) (hs : ∀ st, C st ≠ 0 → vld w r S none x y st) (h6 : ∀ n, n < 512 → tq_al z 6 n = 0) (k : ∀ z', fr [(3, 6), (3, 7)] z z' → (∀ n, n < 512 → tq_al z' 6 n = lN (hD w h r S x y C 2048 n)) → (∀ i, i < 128 → tq_al z' 7 i = tq_al z 7 i + lN (hT w h r S x y C 2048 i)) → Q (.inl none) z') : wm_X5_goOn (nI x) (nI y) z Q := by
  have hw8 := hd.2.1
  have hw1 := hd.1
  have hh8 := hd.2.2.2.1
  unfold wm_X5_goOn
  rw [hj.1, i_8, pk_mul, i_add, i_add, i_1, pk_sub (by omega)]
  intro v1 e1 v2 e2
  subst e1
  subst e2
  have ll : 8 * y + w - 1 = 8 * y + (w - 1) := by omega
  rw [ll]
  unfold wc_X5_goOn_26
  refine lp_inv (fun s t => ∃ z', t = (nI s, z') ∧ fr [(3, 6), (3, 7)] z z' ∧ (∀ n, n < 512 → tq_al z' 6 n = lN (hD w h r S x y C (4 * s) n)) ∧ ∀ i, i < 128 → tq_al z' 7 i = tq_al z 7 i + lN (hT w h r S x y C (4 * s) i)) 512 ?_ ⟨z, rfl, fr_r, fun n hn => h6 n hn, fun i _ => by show _ = _ + lN 0; rw [← l_0, Int64.add_zero]⟩
  rintro s t hs5 ⟨z1, rfl, f1, g1, t1⟩ B hB
  simp only
  unfold wb_X5_goOn_26
  rw [i_512]
  refine ⟨fun h1 => ?_, fun h1 => ?_⟩
  · rw [i_le (by omega) (by omega)] at h1
    have : s = 512 := by omega
    subst this
    have e4 : 4 * 512 = 2048 := by omega
    rw [e4] at g1 t1
    exact k z1 f1 g1 t1
  · rw [i_le (by omega) (by omega)] at h1
    have hs5' : s < 512 := by omega
    unfold wc_X5_goOn_37
    have out : ∀ z', fr [(3, 6), (3, 7)] z z' → (∀ n, n < 512 → tq_al z' 6 n = lN (hD w h r S x y C (4 * (s + 1)) n)) → (∀ i, i < 128 → tq_al z' 7 i = tq_al z 7 i + lN (hT w h r S x y C (4 * (s + 1)) i)) → wc_X5_goOn_172 (fun b5 z => B (b5, z)) Q (nI x) (nI y) (nI (8 * y + x)) (nI (8 * y + (w - 1))) (nI s) z' := by
      intro z' f' g' t'
      unfold wc_X5_goOn_172
      intro v e
      rw [i_1, i_add] at e
      subst e
      exact hB hs5' _ ⟨z', rfl, f', g', t'⟩
    have e44 : 4 * (s + 1) = 4 * s + 4 := by omega
    refine lp_inv (fun m t => ∃ z', t = (nI m, z') ∧ fr [(3, 6), (3, 7)] z z' ∧ (∀ n, n < 512 → tq_al z' 6 n = lN (hD w h r S x y C (4 * s + m) n)) ∧ ∀ i, i < 128 → tq_al z' 7 i = tq_al z 7 i + lN (hT w h r S x y C (4 * s + m) i)) 4 ?_ ⟨z1, rfl, f1, g1, t1⟩
    rintro m t hm ⟨z2, rfl, f2, g2, t2⟩ B2 hB2
    simp only
    unfold wb_X5_goOn_37
    rw [i_4]
    refine ⟨fun h2 => ?_, fun h2 => ?_⟩
    · rw [i_le (by omega) (by omega)] at h2
      have : m = 4 := by omega
      subst this
      rw [← e44] at g2 t2
      exact out z2 f2 g2 t2
    · rw [i_le (by omega) (by omega)] at h2
      have hm4 : m < 4 := by omega
      have c2 : tq_al z2 5 = tq_al z 5 := fr_al f2 (by decide)
      have d4 : (4 * s + m) / 4 = s := by omega
      have m4 : (4 * s + m) % 4 = m := by omega
      rw [i_cl (by omega), c2, hc s hs5']
      refine ⟨i_in (by omega) (by omega), fun h3 => ?_, fun h3 => ?_⟩
      · have e4 : 4 * (s + 1) = 4 * s + 4 := by omega
        rw [e4] at out
        refine out z2 f2 (fun n hn => ?_) (fun i hi => ?_)
        · rw [g2 n hn, hD_skip h3 n m (by omega), hD_skip h3 n 4 (by omega)]
        · rw [t2 i hi, hT_skip h3 i m (by omega), hT_skip h3 i 4 (by omega)]
      · have cs : C s ≠ 0 := fun u => h3 (by rw [u]; rfl)
        have hv := hs s cs
        have j2 := jc_f f2 (by decide) (by decide) (by decide) (by decide) hj
        have next : ∀ z', fr [(3, 6), (3, 7)] z z' → (∀ n, n < 512 → tq_al z' 6 n = lN (hD w h r S x y C (4 * s + (m + 1)) n)) → (∀ i, i < 128 → tq_al z' 7 i = tq_al z 7 i + lN (hT w h r S x y C (4 * s + (m + 1)) i)) → wc_X5_goOn_166 (fun b5 z => B (b5, z)) (fun b6 z => B2 (b6, z)) Q (nI x) (nI y) (nI (8 * y + x)) (nI (8 * y + (w - 1))) (nI s) (nI m) z' := by
          intro z' f' g' t'
          unfold wc_X5_goOn_166
          intro v e
          rw [i_1, i_add] at e
          subst e
          exact hB2 hm4 _ ⟨z', rfl, f', g', t'⟩
        have hDs : ∀ n, hD w h r S x y C (4 * s + (m + 1)) n = hD w h r S x y C (4 * s + m) n + (if af w h r S x y s m = some n then C s else 0) := by
          intro n
          show hD w h r S x y C (4 * s + m + 1) n = _
          rw [hD_S, d4, m4]
        have hTs : ∀ i, hT w h r S x y C (4 * s + (m + 1)) i = hT w h r S x y C (4 * s + m) i + (if hdx w x y m = i then C s * vo w r S (x + 1) y (af w h r S x y s m) else 0) := by
          intro n
          show hT w h r S x y C (4 * s + m + 1) n = _
          rw [hT_S, d4, m4]
        refine sq_aft hd j2 hx hy hs5' hm4 ⟨_, rfl, ?_⟩
        have neg : (bo (af w h r S x y s m) < 0) ↔ af w h r S x y s m = none := by
          have := bo_neg (af_o (h := h) (r := r) (S := S) (y := y) (way := m) hw8 hx hs5')
          rw [nu_lt]
          rw [nu_le] at this
          constructor
          · intro u
            refine Classical.byContradiction fun hn => ?_
            have := this.mpr hn
            omega
          · intro u
            refine Classical.byContradiction fun hn => ?_
            exact this.mp (by omega) u
        refine ⟨fun h4 => ?_, fun h4 => ?_⟩
        · have h5 := neg.mp h4
          refine next z2 f2 (fun n hn => ?_) (fun i hi => ?_)
          · rw [hDs, h5, if_neg (by intro u; cases u), Nat.add_zero]; exact g2 n hn
          · rw [hTs, h5]
            show _ = _ + lN (_ + (if _ then C s * 0 else 0))
            have : (if hdx w x y m = i then C s * 0 else 0) = 0 := by split <;> omega
            rw [this, Nat.add_zero]; exact t2 i hi
        · cases e : af w h r S x y s m with
          | none => exact absurd (neg.mpr e) h4
          | some n0 =>
            have hn0 := af_lt hw8 hx hs5' e
            show vp_in (nI n0) 512 ∧ _
            rw [show bo (some n0) = nI n0 from rfl, i_cl (by omega)]
            refine ⟨i_in hn0 (by omega), i_in (by omega) (by omega), i_in hn0 (by omega), fun z3 e3 => ?_⟩
            have f23 : fr [(3, 6)] z2 z3 := by rw [e3]; exact fr_sal (by decide) fr_r
            have f3 : fr [(3, 6), (3, 7)] z z3 := fr_t f2 (fr_m (by decide) f23)
            have g3 : ∀ n, n < 512 → tq_al z3 6 n = lN (hD w h r S x y C (4 * s + (m + 1)) n) := by
              intro n hn
              rw [e3, rw_ale, rw_updL, hDs, e, c2, hc s hs5']
              by_cases q : n = n0
              · rw [if_pos q, if_pos (by rw [q]), ← l_add, q, g2 n0 hn0]
              · rw [if_neg q, if_neg (fun u => q (Option.some.inj u).symm), Nat.add_zero]; exact g2 n hn
            have t3 : tq_al z3 7 = tq_al z2 7 := fr_al f23 (by decide)
            refine ⟨i_in (by omega) (by omega), ?_⟩
            refine sq_onward (o := some n0) (by omega) (fun n u => by cases u; exact hn0) ⟨_, rfl, ?_⟩
            have vv : vo_l (some n0) (tq_al z3 4) (x + 1) = lN (vf w r S (x + 1) y n0) := by
              show tq_al z3 4 (512 * (x + 1) + n0) = _
              rw [fr_al f3 (by decide)]
              exact hf (x + 1) (by omega) (by omega) n0 (af_vld hw8 (jd_r hd) hx hv e)
            have c3 : tq_al z3 5 = tq_al z 5 := fr_al f3 (by decide)
            intro v6 e6
            rw [c3, hc s hs5', vv, l_mul] at e6
            have fin : ∀ idx, idx < 128 → hdx w x y m = idx → ∀ z', z' = tq_sal z3 7 (vp_updL (tq_al z3 7) idx (tq_al z3 7 idx + v6)) → wc_X5_goOn_166 (fun b5 z => B (b5, z)) (fun b6 z => B2 (b6, z)) Q (nI x) (nI y) (nI (8 * y + x)) (nI (8 * y + (w - 1))) (nI s) (nI m) z' := by
              intro idx hi hix z' e'
              have f' : fr [(3, 7)] z3 z' := by rw [e']; exact fr_sal (by decide) fr_r
              refine next z' (fr_t f3 (fr_m (by decide) f')) (fun n hn => by rw [fr_al f' (by decide)]; exact g3 n hn) (fun i hi2 => ?_)
              rw [e', rw_ale, rw_updL, t3, hTs, e, hix]
              by_cases q : i = idx
              · rw [if_pos q, if_pos q.symm, ← q, t2 i hi2, e6, ← l_add, Int64.add_assoc]; rfl
              · rw [if_neg q, if_neg (fun u => q u.symm), Nat.add_zero]; exact t2 i hi2
            have fin0 : m = 0 → wc_X5_goOn_166 (fun b5 z => B (b5, z)) (fun b6 z => B2 (b6, z)) Q (nI x) (nI y) (nI (8 * y + x)) (nI (8 * y + (w - 1))) (nI s) (nI m) z3 := by
              intro q
              refine next z3 f3 g3 (fun i hi => ?_)
              have : ¬ hdx w x y m = i := by rw [q]; show ¬ 1000 = i; omega
              rw [t3, hTs, if_neg this, Nat.add_zero]; exact t2 i hi
            have m1 : nI m = (1 : Int32) ↔ m = 1 := by rw [i_1]; exact i_eq (by omega) (by omega)
            have m2 : nI m = (2 : Int32) ↔ m = 2 := by rw [i_2]; exact i_eq (by omega) (by omega)
            have m3 : nI m = (3 : Int32) ↔ m = 3 := by rw [i_3]; exact i_eq (by omega) (by omega)
            have f118 : m = 1 ∨ m = 3 → wc_X5_goOn_118 (fun b5 z => B (b5, z)) (fun b6 z => B2 (b6, z)) Q (nI x) (nI y) (nI (8 * y + x)) (nI (8 * y + (w - 1))) (nI s) (nI m) v6 z3 := by
              intro q
              unfold wc_X5_goOn_118 wc_X5_goOn_135
              rw [m1, i_2, pk_mul, pk_mul, i_cl (by omega), i_cl (by omega)]
              refine ⟨fun h5 => ⟨i_in (by omega) (by omega), i_in (by omega) (by omega), fun z4 e4 => fin _ (by omega) ?_ z4 e4⟩, fun h5 => ⟨i_in (by omega) (by omega), i_in (by omega) (by omega), fun z4 e4 => fin _ (by omega) ?_ z4 e4⟩⟩
              · unfold hdx; rw [if_neg h5, if_neg (by omega), if_pos (by omega)]
              · unfold hdx; rw [if_pos h5]
            rw [m1, m2, m3]
            refine ⟨fun h5 => f118 (Or.inl h5), fun h5 => ⟨fun h6 => ⟨fun h7 => fin0 (by omega), fun h7 => ?_⟩, fun h6 => f118 (Or.inr h6)⟩⟩
            rw [i_2, pk_mul, i_1, i_add, i_cl (by omega)]
            refine ⟨i_in (by omega) (by omega), i_in (by omega) (by omega), fun z4 e4 => fin _ (by omega) ?_ z4 e4⟩
            unfold hdx; rw [if_neg h5, if_pos h7]
end GOON
