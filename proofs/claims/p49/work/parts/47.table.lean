/-! ===== come, cell by cell and row by row; the table of pieces ===== -/
def hX (w h : Nat) (r : Bool) (S : Nat → Bool) (M y : Nat) (C0 : Nat → Nat) : Nat → Nat → Nat
  | 0 => C0
  | x + 1 => hD w h r S x y (hX w h r S M y C0 x) M
def hY (w h : Nat) (r : Bool) (S : Nat → Bool) (M : Nat) : Nat → Nat → Nat
  | 0 => fun n => if n = 0 then 1 else 0
  | y + 1 => hX w h r S M y (hY w h r S M y) w
def wpc (w : Nat) (r : Bool) (x W : Nat) : Prop := (W = 1 ∧ x + 1 < w) ∨ W = 2 ∨ (W = 3 ∧ x = 0 ∧ r = true)
section TABLE
variable {w h : Nat} {r : Bool} {S : Nat → Bool} {x y M N : Nat} {C0 : Nat → Nat}
theorem hX_S : hX w h r S M y C0 (x + 1) = hD w h r S x y (hX w h r S M y C0 x) M := rfl
theorem hY_S : hY w h r S M (y + 1) = hX w h r S M y (hY w h r S M y) w := rfl
theorem af_8 {st n way : Nat} (bw : w ≤ 8) (hr4 : r = true → 4 ≤ w) (hxw : x + 1 = w) (e : af w h r S x y st way = some n) : n.testBit 8 = false := by
  have h8 : ∀ v : Nat, ¬ st.testBit 8 = true → ¬ 8 = v → (st ||| 2 ^ v).testBit 8 = false := fun v q q2 => by
    rw [bset_b, decide_eq_false q2, Bool.or_false]
    exact Bool.eq_false_iff.mpr q
  unfold af at e
  split at e
  · split at e
    · cases e
      rw [bclr_b _ (by omega)]; simp
    · cases e
  · rename_i hA
    have n8 : ¬ st.testBit 8 = true := fun q => hA ⟨hxw, q⟩
    split at e
    · split at e
      · cases e
        rw [bclr_b _ (by omega), Bool.eq_false_iff.mpr n8]; rfl
      · cases e
    · split at e
      · split at e
        · cases e; exact h8 _ n8 (by omega)
        · cases e
      · split at e
        · split at e
          · cases e; exact h8 _ n8 (by omega)
          · cases e
        · split at e
          · rename_i q
            have := hr4 q.2.1
            omega
          · cases e
theorem supX (hd : jd w h r S) (h0 : ∀ st, C0 st ≠ 0 → vld w r S none 0 y st) : ∀ x, x ≤ w → ∀ st, hX w h r S M y C0 x st ≠ 0 → vld w r S none x y st ∧ (x = w → st.testBit 8 = false) := by
  have hw1 := hd.1
  intro x
  induction x with
  | zero => intro _ st e; exact ⟨h0 st e, fun q => by omega⟩
  | succ x ih =>
    intro hx n e
    rw [hX_S] at e
    obtain ⟨st, way, -, -, e2, e3⟩ := hD_sup M n e
    have v := (ih (by omega) st e3).1
    exact ⟨af_vld hd.2.1 (jd_r hd) (by omega) v e2, fun q => af_8 hd.2.1 (jd_r hd) q e2⟩
theorem vld_row {st : Nat} (bw : w ≤ 8) (v : vld w r S none w y st) (q : st.testBit 8 = false) : st < 2 ^ w := by
  refine lt_tb (fun j hj => ?_)
  by_cases j8 : j < 8
  · cases e : st.testBit j
    · rfl
    · have := v.2.1 j j8 e; omega
  · by_cases j9 : j = 8
    · rw [j9]; exact q
    · exact tb_lt (k := 9) v.1 (by omega)
theorem p_w (bw : w ≤ 8) : 2 ^ w ≤ 256 := by
  have : (2 : Nat) ^ w ≤ 2 ^ 8 := Nat.pow_le_pow_right (by omega) bw
  omega
theorem supY (hd : jd w h r S) : ∀ y st, hY w h r S M y st ≠ 0 → vld w r S none 0 y st ∧ st < 2 ^ w := by
  have hp : 0 < 2 ^ w := Nat.pow_pos (by omega)
  intro y
  induction y with
  | zero =>
    intro st e
    have e0 : st = 0 := by
      refine Classical.byContradiction fun hn => e ?_
      show (if st = 0 then 1 else 0) = 0
      rw [if_neg hn]
    rw [e0]
    exact ⟨vld_m hd.2.1 hp (fun _ u => (by cases u)), hp⟩
  | succ y ih =>
    intro st e
    rw [hY_S] at e
    obtain ⟨v1, v2⟩ := supX hd (fun st u => (ih st u).1) w (Nat.le_refl _) st e
    have := vld_row hd.2.1 v1 (v2 rfl)
    exact ⟨vld_m hd.2.1 this (fun _ u => (by cases u)), this⟩
variable {a b : Nat}
theorem hX_id (hd : jd w h r S) (hN : N = 512) (hM : M = 4 * N) (h0 : ∀ st, C0 st ≠ 0 → vld w r S none 0 y st) (hx : x < w) (hy : y < h) (ha : 8 * y + x < a) (hb : 8 * y + x < b) (a64 : a < 64) (b64 : b < 64) : fb_sm (fun n => hX w h r S M y C0 (x + 1) n * gh w r S a b (x + 1) y n) N = fb_sm (fun st => hX w h r S M y C0 x st * gh w r S a b x y st) N := by
  have hs := hD_sum (w := w) (h := h) (r := r) (S := S) (x := x) (y := y) (C := hX w h r S M y C0 x) N N (gh w r S a b (x + 1) y) (gho w r S a b (x + 1) y) rfl (fun _ => rfl) (fun st way n h1 _ e => by
    rw [hN] at h1 ⊢
    exact af_lt hd.2.1 hx h1 e) M (by omega)
  rw [hX_S, hs, hM, sum4 (C := hX w h r S (4 * N) y C0 x) (fun st k => gho w r S a b (x + 1) y (af w h r S x y st k))]
  refine fb_sm_cong (fun st _ => ?_)
  by_cases q : hX w h r S (4 * N) y C0 x st = 0
  · rw [q, Nat.zero_mul, Nat.zero_mul]
  · have v := (supX hd h0 x (by omega) st q).1
    rw [gh_s hd.1 hd.2.1 hd.2.2.2.2.2 hd.2.2.2.1 (jd_r hd) hx hy (fun u => (v.2.2.1 u).2) ha hb a64 b64]
theorem gh_row {st : Nat} (hd : jd w h r S) (hy : y < 8) (hst : st < 2 ^ w) (ha : 8 * (y + 1) ≤ a) (hb : 8 * (y + 1) ≤ b) : gh w r S a b w y st = gh w r S a b 0 (y + 1) st := by
  have pw := p_w hd.2.1
  have hw8 := hd.2.1
  have n8 : st.testBit 8 = false := tb_lt (k := 8) (by omega) (by omega)
  have key : ∀ j, 8 * (y + 1) ≤ j → sf S w w y st j = sf S w 0 (y + 1) st j := by
    intro j hj
    have q1 : ¬ j / 8 = y := by omega
    by_cases q2 : j / 8 = y + 1
    · rw [sf_nxt q2 hd.2.1, sf_row q2, n8]
      by_cases q3 : j % 8 < w
      · rw [decide_eq_true q3]; simp
      · rw [decide_eq_false q3, tb_lt hst (by omega)]; simp
    · rw [sf_far q1 q2 hd.2.1]
      unfold sf
      rw [decide_eq_false q2, n8, decide_eq_false (by omega : ¬ j % 8 < 0)]; simp
  unfold gh
  rw [key a ha, key b hb, vf_w hd.2.1 (cv_re_rm hd.2.2.2.2.2) hy (by omega), vf_z hd.1 hd.2.1 (by omega)]
theorem hX_all (hd : jd w h r S) (hN : N = 512) (hM : M = 4 * N) (hy : y < h) (ha : S a = true) (hb : S b = true) (hab : a < b) : ∀ x, x ≤ w → 8 * y + x ≤ a → fb_sm (fun n => hX w h r S M y (hY w h r S M y) x n * gh w r S a b x y n) N = fb_sm (fun n => hY w h r S M y n * gh w r S a b 0 y n) N := by
  have a64 := jd_in hd a ha
  have b64 := jd_in hd b hb
  intro x
  induction x with
  | zero => intro _ _; rfl
  | succ x ih =>
    intro h1 h2
    rw [hX_id hd hN hM (fun st u => (supY hd y st u).1) (by omega) hy (by omega) (by omega) a64 b64]
    exact ih (by omega) (by omega)
theorem hY_all (hd : jd w h r S) (hN : N = 512) (hM : M = 4 * N) (ha : S a = true) (hb : S b = true) (hab : a < b) : ∀ y, 8 * y ≤ a → fb_sm (fun n => hY w h r S M y n * gh w r S a b 0 y n) N = cv_T w r 0 (cv_rm S a b) := by
  have hh8 := hd.2.2.2.1
  have hw8 := hd.2.1
  have a64 := hd.2.2.2.2.2 a ha
  intro y
  induction y with
  | zero =>
    intro _
    have e1 : fb_sm (fun n => hY w h r S M 0 n * gh w r S a b 0 0 n) N = fb_sm (fun k => if k = 0 then gh w r S a b 0 0 0 else 0) N := by
      refine fb_sm_cong (fun k _ => ?_)
      show (if k = 0 then 1 else 0) * _ = _
      by_cases q : k = 0
      · rw [if_pos q, if_pos q, q, Nat.one_mul]
      · rw [if_neg q, if_neg q, Nat.zero_mul]
    have e2 := fb_sm_upd (fun _ => 0) (gh w r S a b 0 0 0) (i := 0) (n := N) (by omega)
    rw [fb_sm_0, Nat.zero_add] at e2
    have e2' : fb_sm (fun k => if k = 0 then gh w r S a b 0 0 0 else 0) N = gh w r S a b 0 0 0 := e2
    rw [e1, e2']
    have key : ∀ j, S j = true → sf S w 0 0 0 j = true := fun j hj => by
      unfold sf; rw [hj, Nat.zero_testBit, Nat.zero_testBit]; simp
    unfold gh
    rw [if_pos ⟨key a ha, key b hb⟩, vf_z hd.1 hd.2.1 (by omega)]
    unfold vr
    rw [cv_S0]
  | succ y ih =>
    intro h1
    have hy : y < h := by omega
    rw [← ih (by omega), ← hX_all hd hN hM hy ha hb hab w (Nat.le_refl _) (by omega), hY_S]
    refine fb_sm_cong (fun st _ => ?_)
    by_cases q : hX w h r S M y (hY w h r S M y) w st = 0
    · rw [q, Nat.zero_mul, Nat.zero_mul]
    · obtain ⟨v1, v2⟩ := supX hd (fun st u => (supY hd y st u).1) w (Nat.le_refl _) st q
      rw [gh_row hd (by omega) (vld_row hd.2.1 v1 (v2 rfl)) (by omega) (by omega)]
theorem ot_lt {W : Nat} (hr4 : r = true → 4 ≤ w) (hp : wpc w r x W) : 8 * y + x < ot w x y W := by
  rcases hp with ⟨rfl, q⟩ | rfl | ⟨rfl, q, q2⟩
  · have : ot w x y 1 = 8 * y + (x + 1) := rfl
    omega
  · have : ot w x y 2 = 8 * (y + 1) + x := rfl
    omega
  · have : ot w x y 3 = 8 * y + (w - 1) := rfl
    have := hr4 q2
    omega
/-- what one cell adds to a piece's place -/
theorem hT_self {W : Nat} (hd : jd w h r S) (hN : N = 512) (hM : M = 4 * N) (hx : x < w) (hy : y < h) (hp : wpc w r x W) (sa : S (8 * y + x) = true) (sb : S (ot w x y W) = true) : hT w h r S x y (hX w h r S M y (hY w h r S M y) x) M (hdx w x y W) = cv_T w r 0 (cv_rm S (8 * y + x) (ot w x y W)) := by
  have hw8 := hd.2.1
  have hh8 := hd.2.2.2.1
  rw [hT_sum, ← hY_all hd hN hM sa sb (ot_lt (jd_r hd) hp) y (by omega), ← hX_all hd hN hM hy sa sb (ot_lt (jd_r hd) hp) x (by omega) (Nat.le_refl _)]
  have e : fb_sm (fun k => hX w h r S M y (hY w h r S M y) x (k / 4) * (if hdx w x y (k % 4) = hdx w x y W then vo w r S (x + 1) y (af w h r S x y (k / 4) (k % 4)) else 0)) M = fb_sm (fun k => hX w h r S M y (hY w h r S M y) x (k / 4) * (if hdx w x y (k % 4) = hdx w x y W then vo w r S (x + 1) y (af w h r S x y (k / 4) (k % 4)) else 0)) (4 * N) := congrArg _ hM
  rw [e, sum4 (C := hX w h r S M y (hY w h r S M y) x) (fun st k => if hdx w x y k = hdx w x y W then vo w r S (x + 1) y (af w h r S x y st k) else 0)]
  refine fb_sm_cong (fun st _ => ?_)
  by_cases q : hX w h r S M y (hY w h r S M y) x st = 0
  · rw [q, Nat.zero_mul, Nat.zero_mul]
  · have v := (supX hd (fun st u => (supY hd y st u).1) x (by omega) st q).1
    congr 1
    rw [← gh_p hd.1 hd.2.1 hd.2.2.2.2.2 hd.2.2.2.1 (jd_r hd) hx hy (fun u => (v.2.2.1 u).2) v.1 rfl rfl sa sb hp]
    have d0 : hdx w x y 0 = 1000 := rfl
    have d1 : hdx w x y 1 = 2 * (8 * y + x) := rfl
    have d2 : hdx w x y 2 = 2 * (8 * y + x) + 1 := rfl
    have d3 : hdx w x y 3 = 2 * (8 * y + (w - 1)) := rfl
    rcases hp with ⟨rfl, q⟩ | rfl | ⟨rfl, q, q2⟩
    · rw [if_neg (by omega), if_pos rfl, if_neg (by omega), if_neg (by omega)]; omega
    · rw [if_neg (by omega), if_neg (by omega), if_pos rfl, if_neg (by omega)]; omega
    · have := jd_r hd q2
      rw [if_neg (by omega), if_neg (by omega), if_neg (by omega), if_pos rfl]; omega
theorem hT_oth {W x' y' : Nat} (hd : jd w h r S) (hN : N = 512) (hM : M = 4 * N) (hx : x < w) (hy : y < h) (hx' : x' < w) (hy' : y' < h) (hp : wpc w r x' W) (ne : ¬ 8 * y' + x' = 8 * y + x) (C : Nat → Nat) : hT w h r S x y C M (hdx w x' y' W) = 0 := by
  have hw8 := hd.2.1
  have hh8 := hd.2.2.2.1
  rw [hT_sum]
  have e0 : ∀ st k, k < 4 → (if hdx w x y k = hdx w x' y' W then vo w r S (x + 1) y (af w h r S x y st k) else 0) = 0 := by
    intro st k hk
    by_cases q : hdx w x y k = hdx w x' y' W
    · rw [if_pos q]
      have d0 : hdx w x y 0 = 1000 := rfl
      have d1 : hdx w x y 1 = 2 * (8 * y + x) := rfl
      have d2 : hdx w x y 2 = 2 * (8 * y + x) + 1 := rfl
      have d3 : hdx w x y 3 = 2 * (8 * y + (w - 1)) := rfl
      have g1 : hdx w x' y' 1 = 2 * (8 * y' + x') := rfl
      have g2 : hdx w x' y' 2 = 2 * (8 * y' + x') + 1 := rfl
      have g3 : hdx w x' y' 3 = 2 * (8 * y' + (w - 1)) := rfl
      have k4 : k = 0 ∨ k = 1 ∨ k = 2 ∨ k = 3 := by omega
      have a1 : x + 1 = w → af w h r S x y st 1 = none := fun u => by
        unfold af
        split
        · rw [if_neg (by omega)]
        · split
          · rw [if_neg (by omega)]
          · rw [if_pos rfl, if_neg (by omega)]
      have a3 : ¬ x = 0 → af w h r S x y st 3 = none := fun u => by
        unfold af
        split
        · rw [if_neg (by omega)]
        · split
          · rw [if_neg (by omega)]
          · rw [if_neg (by omega), if_neg (by omega), if_neg (by omega)]
      rcases hp with ⟨rfl, p⟩ | rfl | ⟨rfl, p, p2⟩ <;> rcases k4 with rfl | rfl | rfl | rfl
      · omega
      · omega
      · omega
      · omega
      · omega
      · omega
      · omega
      · omega
      · omega
      · rw [a1 (by omega)]; rfl
      · omega
      · rw [a3 (by omega)]; rfl
    · rw [if_neg q]
  have e1 : fb_sm (fun k => C (k / 4) * (if hdx w x y (k % 4) = hdx w x' y' W then vo w r S (x + 1) y (af w h r S x y (k / 4) (k % 4)) else 0)) M = fb_sm (fun _ => 0) M := fb_sm_cong (fun k _ => by rw [e0 _ _ (by omega), Nat.mul_zero])
  rw [e1, fb_sm_0]
end TABLE
