/-! ===== loops: the reference's call ===== -/
section RLQ
variable {w h : Nat} {r : Bool} {S : Nat → Bool} {z : tq_S} {Q : tq_O → tq_S → Prop}
def shf4 (W : Nat → Nat) (t : Nat) : Nat := if t % 4 = 0 then W (t / 4) else 0
def vx (x : Nat) (W : Nat → Nat) (s : Nat) : Nat := if x = 0 then shf4 W s else W s
theorem sm_sh4 (W g : Nat → Nat) : ∀ n, fb_sm (fun t => shf4 W t * g t) (4 * n) = fb_sm (fun s => W s * g (4 * s)) n
  | 0 => rfl
  | n + 1 => by
    rw [show 4 * (n + 1) = 4 * n + 1 + 1 + 1 + 1 by omega, fb_sm_succ, fb_sm_succ, fb_sm_succ, fb_sm_succ, fb_sm_succ, sm_sh4 W g n]
    have e0 : shf4 W (4 * n) = W n := by unfold shf4; rw [if_pos (by omega), show 4 * n / 4 = n by omega]
    have e1 : shf4 W (4 * n + 1) = 0 := by unfold shf4; rw [if_neg (by omega)]
    have e2 : shf4 W (4 * n + 1 + 1) = 0 := by unfold shf4; rw [if_neg (by omega)]
    have e3 : shf4 W (4 * n + 1 + 1 + 1) = 0 := by unfold shf4; rw [if_neg (by omega)]
    rw [e0, e1, e2, e3, Nat.zero_mul, Nat.zero_mul, Nat.zero_mul]
    rfl
theorem sm_tail {f : Nat → Nat} {m : Nat} (h : ∀ k, m ≤ k → f k = 0) : ∀ d, fb_sm f (m + d) = fb_sm f m
  | 0 => rfl
  | d + 1 => by
    rw [show m + (d + 1) = m + d + 1 by omega, fb_sm_succ, sm_tail h d, h _ (by omega), Nat.add_zero]
theorem sm_vx {x : Nat} {W : Nat → Nat} (g : Nat → Nat) (hW : x = 0 → ∀ s, W s ≠ 0 → bal w s) : fb_sm (fun s => W s * g (if x = 0 then 4 * s else s)) (gw w) = fb_sm (fun s => vx x W s * g s) (gw w) := by
  by_cases q : x = 0
  · have z0 : ∀ s, 2 ^ (2 * w) ≤ s → W s = 0 := fun s hs => Classical.byContradiction fun e => by
      have := bal_lt (hW q s e); omega
    have e1 : fb_sm (fun s => W s * g (if x = 0 then 4 * s else s)) (gw w) = fb_sm (fun s => W s * g (4 * s)) (gw w) := fb_sm_cong (fun s _ => by rw [if_pos q])
    have e2 : fb_sm (fun s => vx x W s * g s) (gw w) = fb_sm (fun s => shf4 W s * g s) (gw w) := fb_sm_cong (fun s _ => by unfold vx; rw [if_pos q])
    rw [e1, e2]
    have gg : gw w = 4 * 2 ^ (2 * w) := by unfold gw; rw [Nat.pow_add]; omega
    have e3 := sm_sh4 W g (2 ^ (2 * w))
    rw [← gg] at e3
    rw [e3, show gw w = 2 ^ (2 * w) + 3 * 2 ^ (2 * w) by omega]
    exact sm_tail (fun k hk => by rw [z0 k hk, Nat.zero_mul]) _
  · exact fb_sm_cong (fun s _ => by unfold vx; rw [if_neg q, if_neg q])
theorem vx_bal {x : Nat} {W : Nat → Nat} (hW : ∀ s, W s ≠ 0 → bal (w + 1) s ∧ (x = 0 ∨ x = w → bal w s)) {s : Nat} (e : vx x W s ≠ 0) : bal (w + 1) s := by
  unfold vx at e
  by_cases q : x = 0
  · rw [if_pos q] at e
    unfold shf4 at e
    by_cases q2 : s % 4 = 0
    · rw [if_pos q2] at e
      have := bal_sh ((hW _ e).2 (Or.inl q))
      rw [show 4 * (s / 4) = s by omega] at this
      exact this
    · rw [if_neg q2] at e; exact absurd rfl e
  · rw [if_neg q] at e; exact (hW s e).1
theorem vx_b {x b : Nat} {W : Nat → Nat} (hb : fb_sm W (gw w) ≤ b) {s : Nat} (hs : s < gw w) : vx x W s ≤ b := by
  have one : ∀ k, k < gw w → W k ≤ b := fun k hk => by
    have := fb_sm_part W hk
    omega
  unfold vx
  by_cases q : x = 0
  · rw [if_pos q]
    unfold shf4
    split
    · exact one _ (by omega)
    · omega
  · rw [if_neg q]; exact one s hs
theorem sq_shift121 {M y : Nat} {a : Int32} {W : Nat → Nat} {B108 : Int32 → tq_S → Prop} (hM : 4 ≤ M) (hM2 : M ≤ 262144) (h85 : ∀ s, s < M → tq_al z 85 s = lN (W s)) (kk : ∀ z', fr [(3, 85)] z z' → (∀ s, s < M → tq_al z' 85 s = lN (shf4 W s)) → wc_X12_loops_159 B108 Q a (nI M) (nI y) z') : wc_X12_loops_121 B108 Q a (nI M) (nI y) (nI M - 1) z := by
  have m1 : nI M - 1 = nI (M - 1) := by rw [Int32.sub_eq_add_neg]; exact i_m1 (by omega)
  rw [m1]
  unfold wc_X12_loops_121
  refine lp_inv (fun m st => ∃ z1, st = (if m = M then -1 else nI (M - 1 - m), z1) ∧ fr [(3, 85)] z z1 ∧ ∀ t, t < M → tq_al z1 85 t = lN (if M - m ≤ t then shf4 W t else W t)) M ?_ ⟨z, by rw [if_neg (by omega)]; rfl, fr_r, fun t ht => by rw [if_neg (by omega)]; exact h85 t ht⟩
  rintro m st hm ⟨z1, rfl, f1, a1⟩ B hB
  simp only
  by_cases q : m = M
  · rw [if_pos q]
    unfold wb_X12_loops_121
    refine ⟨fun _ => kk z1 f1 (fun s hs => ?_), fun e => absurd (by decide +kernel) e⟩
    rw [a1 s hs, if_pos (by omega)]
  · rw [if_neg q]
    obtain ⟨p, hp⟩ : ∃ p, p = M - 1 - m := ⟨_, rfl⟩
    rw [← hp]
    have fin : ∀ v, v = lN (shf4 W p) → wc_X12_loops_152 B108 (fun b4 z => B (b4, z)) Q a (nI M) (nI y) (nI p) v (nI p) z1 := by
      intro v ev
      unfold wc_X12_loops_152
      refine ⟨i_in (by omega) (by omega), fun z2 e2 v2 e => ?_⟩
      rw [i_cl (by omega)] at e2
      refine hB (by omega) _ ⟨z2, ?_, by rw [e2]; exact fr_sal (by decide) f1, fun t ht => ?_⟩
      · rw [e]
        by_cases q2 : m + 1 = M
        · rw [if_pos q2, show p = 0 by omega]; rfl
        · rw [if_neg q2, i_m1 (by omega), show M - 1 - (m + 1) = p - 1 by omega]
      · have a2 : tq_al z2 85 t = if t = p then v else tq_al z1 85 t := by rw [e2, rw_ale]; rfl
        rw [a2]
        by_cases q2 : t = p
        · rw [if_pos q2, if_pos (by omega), ev, q2]
        · rw [if_neg q2, a1 t ht]
          by_cases q3 : M - m ≤ t
          · rw [if_pos q3, if_pos (by omega)]
          · rw [if_neg q3, if_neg (by omega)]
    unfold wb_X12_loops_121
    rw [show (3 : Int32) = nI 3 from rfl, i_mod (k := 2) rfl, show (0 : Int32) = nI 0 from rfl, i_lt (by omega) (by omega), i_eq (by omega) (by omega), i_2, i_sh (by omega) (by omega)]
    refine ⟨fun e => absurd e (by omega), fun _ => ⟨fun e => fin _ ?_, fun e => ⟨i_in (by omega) (by omega), fin _ ?_⟩⟩⟩
    · unfold shf4
      rw [if_neg (by omega)]; rfl
    · rw [i_cl (by omega), a1 _ (by omega), if_neg (by omega)]
      unfold shf4
      rw [if_pos (by omega)]
theorem sr_loops (hd : jd w h r S) (hj : jr w h r S z) (k0 : (36 < fb_ct S 64 ∨ r = true) → ∀ z', fr [(0, 3264)] z z' → tq_fi z' 3264 = 1 → Q (.inl (some (.int 0))) z') (k1 : fb_ct S 64 ≤ 36 → r = false → ∀ z', fr [(0, 3264), (3, 85), (3, 86), (1, 3319), (0, 3279), (2, 60)] z z' → tq_fi z' 3264 = 0 → rt z' (tn false (call w h S h)) → Q (.inl (some (.int (nI (tn false (call w h S h)).length)))) z') : wm_X12_loops z Q := by
  have hw1 := hd.1
  have hw8 := hd.2.1
  have hh8 := hd.2.2.2.1
  have b64 := fb_ct_le S 64
  have no : (36 < fb_ct S 64 ∨ r = true) → wc_X12_loops_17 Q z := by
    intro q
    unfold wc_X12_loops_17 wc_X12_loops_22
    exact sq_isThrown (b := true) (a := 1) (fun z1 f1 e1 => ⟨_, rfl, fun h3 => (by cases h3), fun _ => k0 q z1 f1 e1⟩)
  unfold wm_X12_loops
  refine sq_many hj ⟨_, rfl, ?_⟩
  dsimp only
  rw [show (36 : Int32) = nI 36 from rfl, i_lt (by omega) (by omega), hj.1.2.2]
  refine ⟨fun q => no (Or.inl q), fun q => ⟨fun q2 => ?_, fun q2 => ?_⟩⟩
  rotate_left
  · refine no (Or.inr ?_)
    by_cases e : r = true
    · exact e
    · rw [if_neg e] at q2; exact absurd rfl q2
  have hr : r = false := by
    by_cases e : r = true
    · rw [if_pos e] at q2; exact absurd q2 (by decide +kernel)
    · simpa using e
  have hs : fb_ct S 64 ≤ 36 := by omega
  unfold wc_X12_loops_22
  refine sq_isThrown (b := false) (a := 1) (fun z1 f1 e1 => ⟨_, rfl, fun _ => ?_, fun h3 => absurd rfl h3⟩)
  have j1 := jr_f f1 (by decide) (by decide) (by decide) (by decide) hj
  unfold wc_X12_loops_35
  refine lp_inv (fun j st => ∃ a : Int32, st = (a, nI j, z1) ∧ ((∃ k, k < j ∧ a = nI k ∧ S k = true ∧ ∀ i, k < i → i < j → S i = false) ∨ ∀ i, i < j → S i = false)) 64 ?_ ⟨-1, rfl, Or.inr fun i hi => absurd hi (Nat.not_lt_zero _)⟩
  rintro j st hj64 ⟨a, rfl, ha⟩ B hB
  simp only
  unfold wb_X12_loops_35
  rw [show (64 : Int32) = nI 64 from rfl, i_le (by omega) (by omega)]
  refine ⟨fun q3 => ?_, fun q3 => ⟨i_in (by omega) (by omega), ?_⟩⟩
  rotate_left
  · rw [i_cl (by omega), j1.2 j (by omega)]
    have fin : ∀ v, ((∃ k, k < j + 1 ∧ v = nI k ∧ S k = true ∧ ∀ i, k < i → i < j + 1 → S i = false) ∨ ∀ i, i < j + 1 → S i = false) → wc_X12_loops_55 (fun b1 b2 z => B (b1, b2, z)) Q (nI j) v z1 := by
      intro v hv
      unfold wc_X12_loops_55
      intro v2 e
      rw [i_1, i_add] at e
      subst e
      exact hB (by omega) _ ⟨v, rfl, hv⟩
    refine ⟨fun e => fin _ ?_, fun e => fin _ ?_⟩
    · rw [bi_0] at e
      rcases ha with ⟨k, k1, k2, k3, k4⟩ | hn
      · refine Or.inl ⟨k, by omega, k2, k3, fun i i1 i2 => ?_⟩
        by_cases q4 : i = j
        · rw [q4]; exact e
        · exact k4 i i1 (by omega)
      · refine Or.inr fun i i2 => ?_
        by_cases q4 : i = j
        · rw [q4]; exact e
        · exact hn i (by omega)
    · rw [bi_n] at e
      exact Or.inl ⟨j, by omega, rfl, e, fun i i1 i2 => absurd i1 (by omega)⟩
  have j64 : j = 64 := by omega
  rw [j64] at ha
  have hl : lasR S a := ha
  clear ha hB B
  unfold wc_X12_loops_62
  intro z2 e2 v2 ev
  have f2 : fr [(0, 3264), (3, 85), (3, 86), (1, 3319)] z z2 := by rw [e2]; exact fr_sfl (by decide) (fr_m (by decide) f1)
  have c2 : tq_fl z2 3319 = lN 0 := by rw [e2, rw_fle]; rfl
  have t2 : tq_fi z2 3264 = 0 := by rw [e2]; exact e1
  have j2 := jr_f f2 (by decide) (by decide) (by decide) (by decide) hj
  have g18 : gw w ≤ 262144 := by
    unfold gw
    exact Nat.pow_le_pow_right (n := 2) (by decide) (show 2 * w + 2 ≤ 18 by omega)
  have g4 : 4 ≤ gw w := by
    unfold gw
    exact Nat.pow_le_pow_right (n := 2) (i := 2) (j := 2 * w + 2) (by decide) (by omega)
  obtain ⟨M, hM⟩ : ∃ M, M = gw w := ⟨_, rfl⟩
  have vM : v2 = nI M := by
    rw [ev, j2.1.1, i_2, pk_mul, i_add, i_1, i_shN (by omega) (by rw [Nat.one_mul]; unfold gw at g18; omega), Nat.one_mul, hM]; rfl
  subst vM
  rw [← hM] at g18 g4
  clear ev
  unfold wc_X12_loops_80
  refine lp_inv (fun m st => ∃ z3, st = (nI m, z3) ∧ fr [(3, 85)] z2 z3 ∧ ∀ t, t < m → tq_al z3 85 t = lN (lall w h S 0 t)) M ?_ ⟨z2, rfl, fr_r, fun t ht => absurd ht (Nat.not_lt_zero _)⟩
  rintro m st hm ⟨z3, rfl, f3, a3⟩ B hB
  simp only
  unfold wb_X12_loops_80
  rw [i_le (by omega) (by omega)]
  refine ⟨fun q4 => ?_, fun q4 => ?_⟩
  rotate_left
  · have fin : ∀ v, v = lN (lall w h S 0 m) → wc_X12_loops_99 (fun b3 z => B (b3, z)) Q a (nI M) (nI m) v (nI m) z3 := by
      intro v e
      unfold wc_X12_loops_99
      refine ⟨i_in (by omega) (by omega), fun z4 e4 v2 e' => ?_⟩
      rw [i_1, i_add] at e'
      subst e'
      rw [i_cl (by omega)] at e4
      refine hB (by omega) _ ⟨z4, rfl, by rw [e4]; exact fr_sal (by decide) f3, fun t ht => ?_⟩
      have a4 : tq_al z4 85 t = if t = m then v else tq_al z3 85 t := by rw [e4, rw_ale]; rfl
      rw [a4]
      by_cases q5 : t = m
      · rw [if_pos q5, e, q5]
      · rw [if_neg q5]; exact a3 t (by omega)
    have m0 : nI m = 0 ↔ m = 0 := by rw [show (0 : Int32) = nI 0 from rfl, i_eq (by omega) (by omega)]
    rw [m0]
    refine ⟨fun e => fin _ ?_, fun e => fin _ ?_⟩
    · show (0 : Int64) = lN (if m = 0 then 1 else 0)
      rw [if_neg e]; rfl
    · show (1 : Int64) = lN (if m = 0 then 1 else 0)
      rw [if_pos e]; rfl
  have mM : m = M := by omega
  subst mM
  clear hB B
  unfold wc_X12_loops_106 wc_X12_loops_108
  refine lp_inv (fun y st => ∃ z4, st = (nI y, z4) ∧ fr [(3, 85), (3, 86), (1, 3319)] z2 z4 ∧ (∀ t, t < m → tq_al z4 85 t = lN (lall w h S y t)) ∧ tq_fl z4 3319 = lN (call w h S y)) h ?_ ⟨z3, rfl, fr_m (by decide) f3, a3, by rw [fr_fl f3 (by decide)]; exact c2⟩
  rintro y st hy ⟨z4, rfl, f4, a4, c4⟩ B hB
  simp only
  unfold wb_X12_loops_108
  have j4 := jr_f f4 (by decide) (by decide) (by decide) (by decide) j2
  rw [j4.1.2.1, i_le (by omega) (by omega)]
  refine ⟨fun q5 => ?_, fun q5 v e => ?_⟩
  · have : y = h := by omega
    subst this
    unfold wc_X12_loops_294
    rw [c4]
    have cb := call_b hd hs y (Nat.le_refl _)
    refine sq_rput (neg := false) (by omega) (fun q => (by cases q)) (fun z5 f5 t5 => ⟨_, rfl, k1 hs hr z5 (fr_t (fr_m (by decide) f2) (fr_t (fr_m (by decide) f4) (fr_m (by decide) f5))) ?_ t5⟩)
    rw [fr_fi f5 (by decide), fr_fi f4 (by decide)]; exact t2
  subst e
  have hy1 : y < h := by omega
  have gy := lall_in hd y (by omega)
  refine sq_shift121 g4 g18 a4 (fun z5 f5 a5 => ?_)
  unfold wc_X12_loops_159 wc_X12_loops_162
  refine lp_inv (fun x st => ∃ z6, st = (nI x, z6) ∧ fr [(3, 85), (3, 86), (1, 3319)] z2 z6 ∧ (∀ t, t < m → tq_al z6 85 t = lN (vx x (lrow w h S y (lall w h S y) x) t)) ∧ tq_fl z6 3319 = lN (crow w h S y (lall w h S y) (call w h S y) x)) w ?_ ⟨z5, rfl, fr_t f4 (fr_m (by decide) f5), a5, by rw [fr_fl f5 (by decide)]; exact c4⟩
  rintro x st hx ⟨z6, rfl, f6, a6, c6⟩ B2 hB2
  simp only
  have j6 := jr_f f6 (by decide) (by decide) (by decide) (by decide) j2
  by_cases q6 : x = w
  · subst q6
    unfold wb_X12_loops_162
    rw [j6.1.1, i_le (by omega) (by omega)]
    refine ⟨fun _ => ?_, fun q3 => absurd (Nat.le_refl x) q3⟩
    unfold wc_X12_loops_288
    intro v e
    rw [i_1, i_add] at e
    subst e
    refine hB hy1 _ ⟨z6, rfl, f6, fun t ht => ?_, c6⟩
    rw [a6 t ht]
    unfold vx
    rw [if_neg (by omega)]; rfl
  · have gx := lrow_in hd hy1 gy x (by omega)
    have gb := lg_b gx hs (by omega) (by omega)
    refine sq_cell162 (V := vx x (lrow w h S y (lall w h S y) x)) hd j6 hM g18 (by omega) hy1 hl (fun s _ e => vx_bal gx.1 e) (fun s hs' => vx_b gb (by omega)) a6 c6 (fun z7 f7 a7 c7 => hB2 (by omega) _ ⟨z7, rfl, fr_t f6 f7, fun t ht => ?_, ?_⟩)
    · rw [a7 t ht]
      unfold vx
      rw [if_neg (by omega)]
      have e := sm_vx (w := w) (x := x) (W := lrow w h S y (lall w h S y) x) (fun s => (trB w h S x y s).count t) (fun q s hs' => (gx.1 s hs').2 (Or.inl q))
      rw [hM]
      show lN (fb_sm (fun s => vx x (lrow w h S y (lall w h S y) x) s * (trB w h S x y s).count t) (gw w)) = _
      rw [← e]; rfl
    · rw [c7]
      have e := sm_vx (w := w) (x := x) (W := lrow w h S y (lall w h S y) x) (fun s => cloB w h S x y s) (fun q s hs' => (gx.1 s hs').2 (Or.inl q))
      rw [hM, ← e]; rfl
end RLQ
