/-! ===== rows of the front ===== -/
def vr (w : Nat) (r : Bool) (S : Nat → Bool) (y m : Nat) : Nat := cv_T w r (8 * y) (cv_S S y m)
def vld (w : Nat) (r : Bool) (S : Nat → Bool) (b : Option Nat) (x y st : Nat) : Prop := st < 512 ∧ (∀ j, j < 8 → st.testBit j = true → j < w) ∧ (st.testBit 8 = true → (r = true ∧ x < w) ∧ 1 ≤ x) ∧ (∀ c, c < x → st.testBit c = true → S (8 * (y + 1) + c) = true) ∧ ∀ m, b = some m → ∀ j, x < j → j < 8 → st.testBit j = m.testBit j
theorem tb_lt {m k j : Nat} (h : m < 2 ^ k) (hj : k ≤ j) : m.testBit j = false := Nat.testBit_lt_two_pow (Nat.lt_of_lt_of_le h (Nat.pow_le_pow_right (by omega) hj))
theorem lt_tb {m k : Nat} (h : ∀ j, k ≤ j → m.testBit j = false) : m < 2 ^ k := Nat.lt_pow_two_of_testBit m h
section VLD
variable {w h : Nat} {r : Bool} {S : Nat → Bool} {b : Option Nat} {x y st : Nat}
theorem af_vld {n way : Nat} (bw : w ≤ 8) (h4 : r = true → 4 ≤ w) (hx : x < w) (hv : vld w r S b x y st) (ee : af w h r S x y st way = some n) : vld w r S b (x + 1) y n := by
  obtain ⟨v1, v2, v3, v4, v5⟩ := hv
  have hn := af_lt bw hx v1 ee
  have set : ¬ (x + 1 = w ∧ st.testBit 8 = true) → ∀ k, k < w → x ≤ k → k ≤ x + 1 → st.testBit x = false → (k = x → S (8 * (y + 1) + x) = true) → vld w r S b (x + 1) y (st ||| 2 ^ k) := by
    intro hA k hk k1 k2 hxb hs
    refine ⟨bset_lt v1 (by omega), fun j hj e => ?_, fun e => ?_, fun c hc e => ?_, fun m hm j hj hj8 => ?_⟩
    · rw [bset_b] at e
      simp only [Bool.or_eq_true, decide_eq_true_eq] at e
      rcases e with e | e
      · exact v2 j hj e
      · omega
    · rw [bset_b, decide_eq_false (by omega : ¬ 8 = k), Bool.or_false] at e
      have nw : ¬ x + 1 = w := fun u => hA ⟨u, e⟩
      exact ⟨⟨(v3 e).1.1, by omega⟩, by omega⟩
    · rw [bset_b] at e
      simp only [Bool.or_eq_true, decide_eq_true_eq] at e
      by_cases q : c = x
      · subst q
        rcases e with e | e
        · rw [hxb] at e; cases e
        · exact hs e.symm
      · rcases e with e | e
        · exact v4 c (by omega) e
        · omega
    · rw [bset_b, decide_eq_false (by omega : ¬ j = k), Bool.or_false]
      exact v5 m hm j (by omega) hj8
  have clr : ¬ (x + 1 = w ∧ st.testBit 8 = true) → vld w r S b (x + 1) y (bclr st x) := by
    intro hA
    refine ⟨bclr_lt v1, fun j hj e => ?_, fun e => ?_, fun c hc e => ?_, fun m hm j hj hj8 => ?_⟩
    · rw [bclr_b _ (by omega)] at e
      simp only [Bool.and_eq_true] at e
      exact v2 j hj e.1
    · rw [bclr_b _ (by omega)] at e
      simp only [Bool.and_eq_true] at e
      have nw : ¬ x + 1 = w := fun u => hA ⟨u, e.1⟩
      exact ⟨⟨(v3 e.1).1.1, by omega⟩, by omega⟩
    · rw [bclr_b _ (by omega)] at e
      simp only [Bool.and_eq_true, Bool.not_eq_true', decide_eq_false_iff_not] at e
      exact v4 c (by omega) e.1
    · rw [bclr_b _ (by omega), decide_eq_true (by omega : j < 9), decide_eq_false (by omega : ¬ j = x), v5 m hm j (by omega) hj8]; simp
  unfold af at ee
  split at ee
  · split at ee
    · rename_i hA hB
      cases ee
      refine ⟨hn, fun j hj e => ?_, fun e => ?_, fun c hc e => ?_, fun m hm j hj hj8 => ?_⟩
      · rw [bclr_b _ (by omega)] at e
        simp only [Bool.and_eq_true] at e
        exact v2 j hj e.1
      · rw [bclr_b _ (by omega)] at e; simp at e
      · rw [bclr_b _ (by omega)] at e
        simp only [Bool.and_eq_true] at e
        by_cases q : c = x
        · subst q
          rw [hB.2.2] at e; cases e.1
        · exact v4 c (by omega) e.1
      · rw [bclr_b _ (by omega), decide_eq_true (by omega : j < 9), decide_eq_false (by omega : ¬ j = 8), v5 m hm j (by omega) hj8]; simp
    · cases ee
  · rename_i hA
    split at ee
    · split at ee
      · cases ee; exact clr hA
      · cases ee
    · rename_i ho
      have hxb : st.testBit x = false := (Classical.not_not.mp ho).2
      split at ee
      · split at ee
        · rename_i hc
          cases ee; exact set hA (x + 1) hc.1 (by omega) (by omega) hxb (fun u => by omega)
        · cases ee
      · split at ee
        · split at ee
          · rename_i hc
            cases ee; exact set hA x hx (by omega) (by omega) hxb (fun _ => hc.2)
          · cases ee
        · split at ee
          · rename_i hc
            cases ee
            refine ⟨hn, fun j hj e => ?_, fun _ => ⟨⟨hc.2.1, by have := h4 hc.2.1; omega⟩, by omega⟩, fun c hcx e => ?_, fun m hm j hj hj8 => ?_⟩
            · rw [bset_b, decide_eq_false (by omega : ¬ j = 8), Bool.or_false] at e
              exact v2 j hj e
            · rw [bset_b, decide_eq_false (by omega : ¬ c = 8), Bool.or_false] at e
              by_cases q : c = x
              · subst q; rw [hxb] at e; cases e
              · exact v4 c (by omega) e
            · rw [bset_b, decide_eq_false (by omega : ¬ j = 8), Bool.or_false]
              exact v5 m hm j (by omega) hj8
          · cases ee
theorem cv_S0 {S : Nat → Bool} {y : Nat} : cv_S S y 0 = S := by
  funext j; unfold cv_S; simp
theorem vf_w {m : Nat} (bw : w ≤ 8) (hS : cv_re w h S) (hy : y < 8) (hm : m < 256) : vf w r S w y m = vr w r S (y + 1) m := by
  have n8 : m.testBit 8 = false := tb_lt (k := 8) hm (by omega)
  have nx : ¬ vf_x S w w y m := by
    rintro ⟨q, -⟩
    rw [n8] at q; cases q
  rw [vf_1 nx]
  unfold vr
  have h5 : 8 * (y + 1) = (8 * y + w) + (8 - w) := by omega
  have e : cv_T w r (8 * y + w) (sf S w w y m) = cv_T w r (8 * (y + 1)) (sf S w w y m) := by
    rw [h5]
    refine cv_skip (by omega) (fun j hj hj2 => ?_)
    cases hc : sf S w w y m j
    · rfl
    · unfold sf at hc
      simp only [Bool.and_eq_true] at hc
      have := hS j hc.1
      omega
  rw [e]
  refine cv_c (fun j hj => ?_)
  unfold cv_S
  by_cases q2 : j / 8 = y + 1
  · rw [sf_nxt q2 bw, decide_eq_true q2]
    cases hs : S j
    · rfl
    · have := hS j hs
      rw [decide_eq_true (by omega : j % 8 < w)]
  · rw [sf_far (by omega) q2 bw, decide_eq_false q2]; simp
theorem vf_z {m : Nat} (bw1 : 1 ≤ w) (bw : w ≤ 8) (hm : m < 256) : vf w r S 0 y m = vr w r S y m := by
  have n8 : m.testBit 8 = false := tb_lt (k := 8) hm (by omega)
  have nx : ¬ vf_x S w 0 y m := by
    rintro ⟨q, -⟩
    rw [n8] at q; cases q
  rw [vf_1 nx]
  unfold vr
  refine cv_c (fun j hj => ?_)
  unfold cv_S
  by_cases q1 : j / 8 = y
  · rw [sf_row q1, n8, decide_eq_true q1, decide_eq_true (Nat.zero_le _)]; simp
  · by_cases q2 : j / 8 = y + 1
    · rw [sf_nxt q2 bw, decide_eq_false q1, decide_eq_false (Nat.not_lt_zero _)]
    · rw [sf_far q1 q2 bw, decide_eq_false q1]; simp
end VLD
/-- a row that is stored -/
def frw (w : Nat) (r : Bool) (S : Nat → Bool) (y : Nat) (z : tq_S) : Prop := ∀ m, m < 2 ^ w → (∀ c, m.testBit c = true → S (8 * y + c) = true) → tq_al z 3 (256 * y + m) = lN (vr w r S y m)
/-- the rows that are stored -/
def fro (w h : Nat) (r : Bool) (S : Nat → Bool) (z : tq_S) : Prop := ∀ y, y ≤ h → frw w r S y z
/-- the cells of one row that are stored -/
def fce (w : Nat) (r : Bool) (S : Nat → Bool) (b : Option Nat) (y : Nat) (x0 : Nat) (z : tq_S) : Prop := ∀ x, x0 ≤ x → x ≤ w → ∀ st, vld w r S b x y st → tq_al z 4 (512 * x + st) = lN (vf w r S x y st)
section ROWS
variable {w h : Nat} {r : Bool} {S : Nat → Bool} {z : tq_S} {Q : tq_O → tq_S → Prop} {b : Option Nat} {x y st : Nat}
theorem vo_ln {o : Option Nat} {A : Nat → Int64} (hA : ∀ n, o = some n → A (512 * x + n) = lN (vf w r S x y n)) : vo_l o A x = lN (vo w r S x y o) := by
  cases o with
  | none => rfl
  | some n => exact hA n rfl
theorem sq_sum1 (hd : jd w h r S) (hj : jc w h r S z) (hx : x < w) (hy : y < h) (hv : vld w r S b x y st) (hf : fce w r S b y (x + 1) z) (k : Q (.inl (some (.long (lN (vf w r S x y st))))) z) : wm_X5_sumOnward (nI x) (nI y) (nI st) z Q := by
  have hw8 := hd.2.1
  refine sq_sumOnward hd hj hx hy hv.1 ?_
  have e : ∀ way, vo_l (af w h r S x y st way) (tq_al z 4) (x + 1) = lN (vo w r S (x + 1) y (af w h r S x y st way)) := fun way => vo_ln (fun n q => hf (x + 1) (Nat.le_refl _) hx n (af_vld hw8 (fun u => (hd.2.2.2.2.1 u).2) hx hv q))
  rw [e, e, e, e, l_add, l_add, l_add, ← vf_s hd.1 hw8 hd.2.2.2.2.2 hd.2.2.2.1 (fun q => (hd.2.2.2.2.1 q).2) hx hy (fun q => (hv.2.2.1 q).2)]
  exact k
def fxm (m x : Nat) : Nat := m &&& (255 ^^^ (2 ^ (x + 1) - 1))
theorem fxm_b {m : Nat} (hx : x < 8) (j : Nat) : (fxm m x).testBit j = (m.testBit j && (decide (j < 8) && !decide (j < x + 1))) := by
  unfold fxm
  rw [Nat.testBit_and, Nat.testBit_xor, Nat.testBit_two_pow_sub_one, show (255 : Nat) = 2 ^ 8 - 1 from rfl, Nat.testBit_two_pow_sub_one]
  by_cases h1 : j < x + 1
  · rw [decide_eq_true h1, decide_eq_true (by omega : j < 8)]; rfl
  · rw [decide_eq_false h1]; simp
theorem ib_ng : ∀ x : Fin 8, ∀ i : Fin 32, ib (-(nI (2 ^ (x.val + 1)))) i.val = decide (x.val + 1 ≤ i.val) := by decide +kernel
theorem i_fxm {m : Nat} (hx : x < 8) : ((nI m) &&& (-(nI (2 ^ (x + 1))))) &&& (255 : Int32) = nI (fxm m x) := by
  refine ib_ext (fun i hi => ?_)
  rw [ib_and, ib_and, ib_n, ib_n, ib_ng ⟨x, hx⟩ ⟨i, hi⟩, fxm_b hx, show (255 : Int32) = nI (2 ^ 8 - 1) from rfl, ib_n, Nat.testBit_two_pow_sub_one, decide_eq_true hi]
  by_cases h1 : i < x + 1
  · rw [decide_eq_true h1, decide_eq_false (by omega : ¬ x + 1 ≤ i)]; simp
  · rw [decide_eq_false h1, decide_eq_true (by omega : x + 1 ≤ i)]; simp
def fxb (b : Option Nat) (x : Nat) : Nat := match b with
  | none => 0
  | some m => fxm m x
def frb (b : Option Nat) (w x : Nat) : Nat := match b with
  | none => 2 ^ w
  | some _ => 2 ^ (x + 1)
theorem fx_or {i : Nat} (hw : w ≤ 8) (hx : x < w) (hi : i < frb b w x) (hb : ∀ m, b = some m → m < 2 ^ w) : fxb b x ||| i < 2 ^ w ∧ ∀ j, (fxb b x ||| i).testBit j = if x < j ∧ b ≠ none then (fxb b x).testBit j else i.testBit j := by
  cases b with
  | none =>
    refine ⟨?_, fun j => ?_⟩
    · show 0 ||| i < _
      rw [Nat.zero_or]; exact hi
    · show (0 ||| i).testBit j = _
      rw [Nat.zero_or, if_neg (fun u => u.2 rfl)]
  | some m =>
    have hm := hb m rfl
    have hi' : i < 2 ^ (x + 1) := hi
    refine ⟨lt_tb (fun j hj => ?_), fun j => ?_⟩
    · show (fxm m x ||| i).testBit j = false
      rw [Nat.testBit_or, fxm_b (by omega), tb_lt hm hj, tb_lt hi' (by omega)]; rfl
    · show (fxm m x ||| i).testBit j = if _ then (fxm m x).testBit j else _
      rw [Nat.testBit_or]
      by_cases q : x < j
      · rw [if_pos ⟨q, fun u => by cases u⟩, tb_lt hi' (by omega), Bool.or_false]
      · rw [if_neg (fun u => q u.1), fxm_b (by omega), decide_eq_true (by omega : j < x + 1)]; simp
/-- a state's mask is one of those that are gone through -/
theorem fx_in {m0 : Nat} (hw : w ≤ 8) (hx : x < w) (hv : vld w r S b x y st) (hm0 : m0 = st % 256) : ∃ i, i < frb b w x ∧ m0 = fxb b x ||| i := by
  have hb : ∀ j, m0.testBit j = (decide (j < 8) && st.testBit j) := fun j => by rw [hm0, show (256 : Nat) = 2 ^ 8 from rfl, Nat.testBit_mod_two_pow]
  cases hb0 : b with
  | none =>
    refine ⟨m0, ?_, ?_⟩
    · show m0 < 2 ^ w
      refine lt_tb (fun j hj => ?_)
      rw [hb]
      cases hc : st.testBit j
      · simp
      · by_cases q : j < 8
        · have := hv.2.1 j q hc; omega
        · rw [decide_eq_false q]; rfl
    · show m0 = 0 ||| m0
      rw [Nat.zero_or]
  | some m =>
    refine ⟨m0 % 2 ^ (x + 1), Nat.mod_lt _ (Nat.pow_pos (by omega)), ?_⟩
    show m0 = fxm m x ||| _
    refine Nat.eq_of_testBit_eq (fun j => ?_)
    rw [Nat.testBit_or, fxm_b (by omega), Nat.testBit_mod_two_pow]
    by_cases q : j < x + 1
    · rw [decide_eq_true q]; simp
    · rw [decide_eq_false q, hb]
      by_cases q8 : j < 8
      · rw [decide_eq_true q8, hv.2.2.2.2 m hb0 j (by omega) q8]; simp
      · rw [decide_eq_false q8]; simp
/-- one column of a row -/
theorem sq_col {a2 a3 : Int32} {B75 : Int32 → tq_S → Prop} (hd : jd w h r S) (hj : jc w h r S z) (hx : x < w) (hy : y < h) (hb : ∀ m, b = some m → m < 2 ^ w) (hf : fce w r S b y (x + 1) z) (k : ∀ z', fr [(3, 4)] z z' → fce w r S b y x z' → wc_X5_prepareRow_178 B75 Q (nI y) a2 a3 (nI x) z') : wc_X5_prepareRow_94 B75 Q (nI y) a2 a3 (nI x) (nI (frb b w x)) (nI (fxb b x)) (0 : Int32) z := by
  have hw8 := hd.2.1
  have p2 : ∀ k, k ≤ 8 → 2 ^ k ≤ 256 := fun k hk => by
    have : (2 : Nat) ^ k ≤ 2 ^ 8 := Nat.pow_le_pow_right (by omega) hk
    omega
  have fr256 : frb b w x ≤ 256 := by
    cases b with
    | none => exact p2 w hw8
    | some m => exact p2 (x + 1) (by omega)
  unfold wc_X5_prepareRow_94
  refine lp_inv (fun i s => ∃ z', s = (nI i, z') ∧ fr [(3, 4)] z z' ∧ fce w r S b y (x + 1) z' ∧ ∀ i', i' < i → ∀ st, st % 256 = fxb b x ||| i' → vld w r S b x y st → tq_al z' 4 (512 * x + st) = lN (vf w r S x y st)) (frb b w x) ?_ ⟨z, rfl, fr_r, hf, fun i' hi' => by omega⟩
  rintro i s hi ⟨z1, rfl, f1, g1, e1⟩ B hB
  simp only
  have j1 := jc_f f1 (by decide) (by decide) (by decide) (by decide) hj
  unfold wb_X5_prepareRow_94
  rw [i_le (by omega) (by omega)]
  refine ⟨fun h1 => ?_, fun h1 => ?_⟩
  · refine k z1 f1 (fun x' hx1 hx2 st hv => ?_)
    by_cases q : x' = x
    · subst q
      obtain ⟨i', hi', e⟩ := fx_in hw8 hx hv rfl
      exact e1 i' (by omega) st e hv
    · exact g1 x' (by omega) hx2 st hv
  · have ho := fx_or hw8 hx (show i < frb b w x by omega) hb
    have hm256 : fxb b x ||| i < 256 := Nat.lt_of_lt_of_le ho.1 (p2 w hw8)
    intro v1 q1
    rw [i_or] at q1
    subst q1
    -- the mask alone
    have mask_v : (∀ c, c < x → (fxb b x ||| i).testBit c = true → S (8 * (y + 1) + c) = true) → vld w r S b x y (fxb b x ||| i) := by
      intro hv
      refine ⟨by omega, fun j hj8 e => ?_, fun e => ?_, hv, fun m hm j hj1 hj8 => ?_⟩
      · refine Classical.byContradiction fun hn => ?_
        rw [tb_lt ho.1 (by omega)] at e; cases e
      · rw [tb_lt (k := 8) hm256 (by omega)] at e; cases e
      · rw [ho.2 j, if_pos ⟨hj1, by rw [hm]; exact fun u => by cases u⟩, hm]
        show (fxm m x).testBit j = _
        rw [fxm_b (by omega), decide_eq_true hj8, decide_eq_false (by omega : ¬ j < x + 1)]; simp
    have getv : ∀ st, st % 256 = fxb b x ||| i → vld w r S b x y st → st = fxb b x ||| i ∨ (st = (fxb b x ||| i) + 256 ∧ r = true ∧ 1 ≤ x) := by
      intro st e hv
      have h512 := hv.1
      rcases Nat.lt_or_ge st 256 with q | q
      · exact Or.inl (by omega)
      · have q8 : st.testBit 8 = true := by
          have : st = 2 ^ 8 * 1 + (st - 256) := by omega
          rw [this, Nat.testBit_two_pow_mul_add _ (by omega)]; rfl
        exact Or.inr ⟨by omega, (hv.2.2.1 q8).1.1, (hv.2.2.1 q8).2⟩
    -- a state is summed whether it can be or not
    have sum : ∀ st z2, st < 512 → fr [(3, 4)] z z2 → fce w r S b y (x + 1) z2 → ∀ Q' : tq_O → tq_S → Prop, (∀ v, (vld w r S b x y st → v = lN (vf w r S x y st)) → Q' (.inl (some (.long v))) z2) → wm_X5_sumOnward (nI x) (nI y) (nI st) z2 Q' := by
      intro st z2 hst f2 g2 Q' k'
      have j2 := jc_f f2 (by decide) (by decide) (by decide) (by decide) hj
      by_cases hv : vld w r S b x y st
      · exact sq_sum1 hd j2 hx hy hv g2 (k' _ (fun _ => rfl))
      · exact sq_sumOnward hd j2 hx hy hst (k' _ (fun u => absurd u hv))
    refine sum _ z1 (by omega) f1 g1 _ (fun v hv => ⟨_, rfl, ?_⟩)
    rw [i_512, pk_mul, i_add, Nat.mul_comm x 512]
    refine ⟨i_in (by omega) (by omega), fun z2 q2 => ?_⟩
    rw [i_cl (by omega)] at q2
    have f2 : fr [(3, 4)] z z2 := by rw [q2]; exact fr_sal (by decide) f1
    have a2' : ∀ j, tq_al z2 4 j = if j = 512 * x + (fxb b x ||| i) then v else tq_al z1 4 j := fun j => by rw [q2, rw_ale, rw_updL]
    have g2 : fce w r S b y (x + 1) z2 := fun x' hx1 hx2 st hv => by
      rw [a2', if_neg (by omega)]; exact g1 x' hx1 hx2 st hv
    have j2 := jc_f f2 (by decide) (by decide) (by decide) (by decide) hj
    have nextB : ∀ z3, fr [(3, 4)] z z3 → fce w r S b y (x + 1) z3 → (∀ i', i' < i + 1 → ∀ st, st % 256 = fxb b x ||| i' → vld w r S b x y st → tq_al z3 4 (512 * x + st) = lN (vf w r S x y st)) → wc_X5_prepareRow_172 B75 (fun b8 z => B (b8, z)) Q (nI y) a2 a3 (nI x) (nI (frb b w x)) (nI (fxb b x)) (nI i) z3 := by
      intro z3 f3 g3 e3
      unfold wc_X5_prepareRow_172
      intro v5 q5
      rw [i_1, i_add] at q5
      subst q5
      exact hB (by omega) _ ⟨z3, rfl, f3, g3, e3⟩
    rw [j2.2.2.1]
    refine ⟨fun h2 => ?_, fun h2 => ?_⟩
    · rw [bi_0] at h2
      refine nextB z2 f2 g2 (fun i' hi' st e hvs => ?_)
      rw [a2']
      by_cases q : st = fxb b x ||| i
      · rw [if_pos (by omega)]
        subst q
        exact hv hvs
      · rw [if_neg (by omega)]
        by_cases q3 : i' = i
        · subst q3
          rcases getv st e hvs with q4 | q4
          · exact absurd q4 q
          · rw [h2] at q4; exact absurd q4.2.1 Bool.false_ne_true
        · exact e1 i' (by omega) st e hvs
    · rw [bi_n] at h2
      rw [i_256, i_add]
      refine sum _ z2 (by omega) f2 g2 _ (fun v' hv' => ⟨_, rfl, ?_⟩)
      rw [i_add]
      refine ⟨i_in (by omega) (by omega), fun z3 q3 => ?_⟩
      rw [i_cl (by omega)] at q3
      have a3' : ∀ j, tq_al z3 4 j = if j = 512 * x + (fxb b x ||| i) + 256 then v' else tq_al z2 4 j := fun j => by rw [q3, rw_ale, rw_updL]
      refine nextB z3 (by rw [q3]; exact fr_sal (by decide) f2) (fun x' hx1 hx2 st hvs => ?_) (fun i' hi' st e hvs => ?_)
      · rw [a3', if_neg (by have := hvs.1; omega)]; exact g2 x' hx1 hx2 st hvs
      · rw [a3']
        by_cases q : st = (fxb b x ||| i) + 256
        · rw [if_pos (by omega)]
          subst q
          exact hv' hvs
        · rw [if_neg (by omega), a2']
          by_cases q6 : st = fxb b x ||| i
          · rw [if_pos (by omega)]
            subst q6
            exact hv hvs
          · rw [if_neg (by omega)]
            by_cases q7 : i' = i
            · subst q7
              rcases getv st e hvs with q8 | q8
              · exact absurd q8 q6
              · exact absurd q8.1 q
            · exact e1 i' (by omega) st e hvs
def ob (b : Option Nat) : Int32 := match b with
  | none => -1
  | some m => nI m
theorem sq_prep (hd : jd w h r S) (hj : jc w h r S z) (hy : y < h) (hb : ∀ m, b = some m → m < 2 ^ w) (hf : frw w r S (y + 1) z) (k : ∀ z', fr [(3, 4)] z z' → fce w r S b y 0 z' → Q (.inl none) z') : wm_X5_prepareRow (nI y) (ob b) z Q := by
  have hw8 := hd.2.1
  have hw1 := hd.1
  have hh8 := hd.2.2.2.1
  have p2 : ∀ k, k ≤ 8 → 2 ^ k ≤ 256 := fun k hk => by
    have : (2 : Nat) ^ k ≤ 2 ^ 8 := Nat.pow_le_pow_right (by omega) hk
    omega
  have pw := p2 w hw8
  unfold wm_X5_prepareRow
  rw [hj.1, i_pw (by omega), i_512, pk_mul]
  intro v1 q1
  subst q1
  rw [i_1, i_256, i_add, pk_mul, i_cl (by omega), i_cl (by omega), i_cl (by omega)]
  refine ⟨i_n0 (by omega), i_n0 (by omega), i_n0 (by omega), by omega, by omega, fun z4 q3 v5 q5 => ?_⟩
  have f34 : fr [(3, 4)] z z4 := by rw [q3]; exact fr_sal (by decide) fr_r
  have j4 := jc_f f34 (by decide) (by decide) (by decide) (by decide) hj
  rw [j4.1, pk_sub hw1] at q5
  have base : fce w r S b y w z4 := by
    intro x hx1 hx2 st hv
    have hxw : x = w := by omega
    subst hxw
    have h512 := hv.1
    have lt256 : st < 256 := by
      rcases Nat.lt_or_ge st 256 with q | q
      · exact q
      · have h8 : st.testBit 8 = true := by
          have : st = 2 ^ 8 * 1 + (st - 256) := by omega
          rw [this, Nat.testBit_two_pow_mul_add _ (by omega)]; rfl
        have := (hv.2.2.1 h8).1.2
        omega
    have hst : st < 2 ^ x := lt_tb (fun j hj => by
      cases hc : st.testBit j
      · rfl
      · by_cases q8 : j < 8
        · have := hv.2.1 j q8 hc; omega
        · rw [tb_lt (k := 8) (by omega) (by omega)] at hc; cases hc)
    rw [q3, rw_ale, pk_cpy_in (by omega) (by omega)]
    have e6 : (y + 1) * 256 + (512 * x + st - x * 512) = 256 * (y + 1) + st := by omega
    rw [e6, hf st hst (fun c hc => hv.2.2.2.1 c (by
      refine Classical.byContradiction fun hn => ?_
      rw [tb_lt hst (by omega)] at hc; cases hc) hc), vf_w hw8 hd.2.2.2.2.2 (by omega) (by omega)]
  subst q5
  unfold wc_X5_prepareRow_51
  refine lp_inv (fun m s => ∃ z', s = ((if m < w then nI (w - 1 - m) else -1 : Int32), z') ∧ fr [(3, 4)] z z' ∧ fce w r S b y (w - m) z') w ?_ ⟨z4, by rw [if_pos (by omega)]; rfl, f34, base⟩
  rintro m s hm ⟨z5, rfl, f5, g5⟩ B hB
  simp only
  have j5 := jc_f f5 (by decide) (by decide) (by decide) (by decide) hj
  unfold wb_X5_prepareRow_51
  by_cases hmw : m < w
  · rw [if_pos hmw]
    refine ⟨fun h1 => absurd h1 (i_n0 (by omega)), fun _ => ?_⟩
    have g5' : fce w r S b y (w - 1 - m + 1) z5 := by
      have : w - 1 - m + 1 = w - m := by omega
      rw [this]; exact g5
    have go : wc_X5_prepareRow_94 (fun b5 z => B (b5, z)) Q (nI y) (ob b) (nI (2 ^ w)) (nI (w - 1 - m)) (nI (frb b w (w - 1 - m))) (nI (fxb b (w - 1 - m))) (0 : Int32) z5 := by
      refine sq_col hd j5 (by omega) hy hb g5' (fun z6 f6 g6 => ?_)
      unfold wc_X5_prepareRow_178
      intro v7 q7
      refine hB hmw _ ⟨z6, ?_, fr_t f5 f6, ?_⟩
      · rw [q7]
        by_cases q : m + 1 < w
        · rw [if_pos q, i_m1 (by omega)]
          have : w - 1 - m - 1 = w - 1 - (m + 1) := by omega
          rw [this]
        · rw [if_neg q]
          have : w - 1 - m = 0 := by omega
          rw [this]; rfl
      · have : w - (m + 1) = w - 1 - m := by omega
        rw [this]; exact g6
    cases b with
    | none =>
      refine ⟨fun h2 => absurd rfl h2, fun _ => ?_⟩
      unfold wc_X5_prepareRow_69
      exact ⟨fun h3 => absurd rfl h3, fun _ => go⟩
    | some mm =>
      have hmm := hb mm rfl
      have ne : ¬ ob (some mm) = (-1 : Int32) := by
        intro e
        have e2 : nI mm = (-1 : Int32) := e
        rw [nu_eq, i_ti (by omega)] at e2
        have : (-1 : Int32).toInt = -1 := by decide +kernel
        omega
      refine ⟨fun _ => ?_, fun h2 => absurd h2 ne⟩
      have sh : (2 : Int32) <<< ((nI (w - 1 - m)) &&& 31) = nI (2 ^ (w - 1 - m + 1)) := by
        have hp : 2 * 2 ^ (w - 1 - m) < 2 ^ 32 := by
          have := p2 (w - 1 - m) (by omega)
          omega
        rw [i_2, pk_shlN _ (w - 1 - m) (i_sm ⟨w - 1 - m, by omega⟩) hp, Nat.pow_succ, Nat.mul_comm]
      rw [sh]
      unfold wc_X5_prepareRow_69
      refine ⟨fun _ => ?_, fun h3 => absurd h3 ne⟩
      have e8 : ((ob (some mm)) &&& (-(nI (2 ^ (w - 1 - m + 1))))) &&& (255 : Int32) = nI (fxm mm (w - 1 - m)) := i_fxm (by omega)
      rw [e8]
      unfold wc_X5_prepareRow_89
      exact go
  · rw [if_neg hmw]
    have : m = w := by omega
    subst this
    refine ⟨fun _ => k z5 f5 (by rw [Nat.sub_self] at g5; exact g5), fun h1 => absurd (show (-1 : Int32) < 0 by decide +kernel) h1⟩
theorem vld_m {m : Nat} (hw : w ≤ 8) (hm : m < 2 ^ w) (hb : ∀ m', b = some m' → m' = m) : vld w r S b 0 y m := by
  have pw : 2 ^ w ≤ 256 := by
    have : (2 : Nat) ^ w ≤ 2 ^ 8 := Nat.pow_le_pow_right (by omega) hw
    omega
  refine ⟨by omega, fun j hj e => ?_, fun e => ?_, fun c hc e => by omega, fun m' e j _ _ => by rw [hb m' e]⟩
  · refine Classical.byContradiction fun hn => ?_
    rw [tb_lt hm (by omega)] at e
    cases e
  · rw [tb_lt (k := 8) (by omega) (by omega)] at e
    cases e
theorem sq_total (hd : jd w h r S) (hj : jc w h r S z) (hc : tq_fi z 134 = tq_fi z 68 → fro w h r S z) (k : ∀ z', fr [(3, 3), (3, 4), (0, 134)] z z' → fro w h r S z' → tq_fi z' 134 = tq_fi z' 68 → Q (.inl (some (.long (lN (cv_T w r 0 S))))) z') : wm_X5_total z Q := by
  have hw8 := hd.2.1
  have hw1 := hd.1
  have hh8 := hd.2.2.2.1
  have hh1 := hd.2.2.1
  have hp : 0 < 2 ^ w := Nat.pow_pos (by omega)
  have pw : 2 ^ w ≤ 256 := by
    have : (2 : Nat) ^ w ≤ 2 ^ 8 := Nat.pow_le_pow_right (by omega) hw8
    omega
  have fin : ∀ z', fr [(3, 3), (3, 4), (0, 134)] z z' → fro w h r S z' → tq_fi z' 134 = tq_fi z' 68 → wc_X5_total_102 Q z' := by
    intro z' f' g' e'
    unfold wc_X5_total_102
    have e : tq_al z' 3 (Int32.toNatClampNeg (0 : Int32)) = lN (cv_T w r 0 S) := by
      rw [i_0, i_cl (by omega), show (0 : Nat) = 256 * 0 + 0 from rfl, g' 0 (by omega) 0 hp (fun c hc => by rw [Nat.zero_testBit] at hc; cases hc)]
      unfold vr
      rw [cv_S0]
    rw [e]
    exact k z' f' g' e'
  unfold wm_X5_total
  refine ⟨fun h1 => fin z fr_r (hc h1) h1, fun h1 => ?_⟩
  refine fw_J7_fill_d0a16 ⟨rfl, ?_⟩
  have f1 : fr [(3, 3), (3, 4), (0, 134)] z (fl_l z 3 0 2304 (0 : Int64)) := by unfold fl_l; exact fr_sal (by decide) fr_r
  have j1 := jc_f f1 (by decide) (by decide) (by decide) (by decide) hj
  show vp_in (tq_fi (fl_l z 3 0 2304 (0 : Int64)) 65 * (256 : Int32)) 2304 ∧ _
  rw [j1.2.1, i_256, pk_mul]
  refine ⟨i_in (by omega) (by omega), fun z2 q2 v3 q3 => ?_⟩
  rw [i_cl (by omega)] at q2
  have f2 : fr [(3, 3), (3, 4), (0, 134)] z z2 := by rw [q2]; exact fr_sal (by decide) f1
  have j2 := jc_f f2 (by decide) (by decide) (by decide) (by decide) hj
  rw [j2.2.1, i_1, pk_sub hh1] at q3
  subst q3
  have base : ∀ y, h ≤ y → y ≤ h → ∀ m, m < 2 ^ w → (∀ c, m.testBit c = true → S (8 * y + c) = true) → tq_al z2 3 (256 * y + m) = lN (vr w r S y m) := by
    intro y h3 h4 m hm hv
    have hyh : y = h := by omega
    subst hyh
    have m0 : m = 0 := by
      refine Nat.eq_of_testBit_eq (fun c => ?_)
      rw [Nat.zero_testBit]
      cases hcb : m.testBit c
      · rfl
      · have a1 := hd.2.2.2.2.2 _ (hv c hcb)
        omega
    subst m0
    rw [q2, rw_ale, rw_updL, if_pos (by omega)]
    have e : vr w r S y 0 = 1 := by
      unfold vr
      rw [cv_S0]
      have h2 : 8 * y + (64 - 8 * y) = 64 := by omega
      have h3 := cv_skip (w := w) (r := r) (S := S) (i := 8 * y) (n := 64 - 8 * y) (by omega) (fun j hj _ => by
        cases hcs : S j
        · rfl
        · have := hd.2.2.2.2.2 j hcs
          omega)
      rw [h3, h2, cv_64]
    rw [e]; rfl
  unfold wc_X5_total_49
  refine lp_inv (fun m s => ∃ z', s = ((if m < h then nI (h - 1 - m) else -1 : Int32), z') ∧ fr [(3, 3), (3, 4), (0, 134)] z z' ∧ ∀ y, h - m ≤ y → y ≤ h → ∀ mm, mm < 2 ^ w → (∀ c, mm.testBit c = true → S (8 * y + c) = true) → tq_al z' 3 (256 * y + mm) = lN (vr w r S y mm)) h ?_ ⟨z2, by rw [if_pos (by omega)]; rfl, f2, base⟩
  rintro m s hm ⟨z5, rfl, f5, g5⟩ B hB
  simp only
  have j5 := jc_f f5 (by decide) (by decide) (by decide) (by decide) hj
  unfold wb_X5_total_49
  by_cases hmh : m < h
  · rw [if_pos hmh]
    refine ⟨fun h2 => absurd h2 (i_n0 (by omega)), fun _ => ?_⟩
    have yy : h - 1 - m + 1 = h - m := by omega
    refine sq_prep (b := none) hd j5 (by omega) (fun m e => (by cases e)) (by rw [yy]; exact fun mm h1 h2 => g5 (h - m) (by omega) (by omega) mm h1 h2) (fun z6 f6 g6 => ⟨rfl, ?_⟩)
    have f56 : fr [(3, 3), (3, 4), (0, 134)] z z6 := fr_t f5 (fr_m (by decide) f6)
    have j6 := jc_f f56 (by decide) (by decide) (by decide) (by decide) hj
    have a6 : tq_al z6 3 = tq_al z5 3 := fr_al f6 (by decide)
    show (¬ (0 : Int32) < 0) ∧ _
    rw [j6.1, i_pw (by omega), i_256, pk_mul, i_cl (by omega), i_cl (by omega), i_0, i_cl (by omega)]
    refine ⟨i_n0 (by omega), i_n0 (by omega), i_n0 (by omega), by omega, by omega, fun z7 q7 v8 q8 => ?_⟩
    refine hB hmh _ ⟨z7, ?_, ?_, ?_⟩
    · rw [q8]
      by_cases q : m + 1 < h
      · rw [if_pos q, i_m1 (by omega)]
        have : h - 1 - m - 1 = h - 1 - (m + 1) := by omega
        rw [this]
      · rw [if_neg q]
        have : h - 1 - m = 0 := by omega
        rw [this]; rfl
    · rw [q7]; exact fr_sal (by decide) f56
    · intro y hy1 hy2 mm hmm hv
      rw [q7, rw_ale]
      by_cases q : y = h - 1 - m
      · rw [pk_cpy_in (by omega) (by omega)]
        have e9 : 0 + (256 * y + mm - (h - 1 - m) * 256) = 512 * 0 + mm := by omega
        rw [e9, g6 0 (Nat.le_refl _) (by omega) mm (vld_m hw8 hmm (fun _ e => (by cases e))), vf_z hw1 hw8 (by omega), q]
      · rw [pk_cpy_out (by omega), a6]
        exact g5 y (by omega) hy2 mm hmm hv
  · rw [if_neg hmh]
    have : m = h := by omega
    subst this
    refine ⟨fun _ => ?_, fun h2 => absurd (show (-1 : Int32) < 0 by decide +kernel) h2⟩
    unfold wc_X5_total_91
    intro z6 q6
    refine fin z6 (by rw [q6]; exact fr_sfi (by decide) f5) ?_ (by rw [q6, rw_fie]; rfl)
    intro y hy mm hmm hv
    rw [q6]
    exact g5 y (by omega) hy mm hmm hv
end ROWS
