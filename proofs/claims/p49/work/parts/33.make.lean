/-! ===== the class makes the cover of a number, and tells its number ===== -/
def Rp (w : Nat) (r : Bool) (p : Nat → Nat) (j : Nat) : Bool := (decide (j % 8 + 1 < w) && decide (p j = j + 1)) || (r && (decide (j % 8 = w - 1) && decide (p j + (w - 1) = j)))
def Dp (p : Nat → Nat) (j : Nat) : Bool := decide (p j = j + 8)
theorem vf_big {w : Nat} {r : Bool} {S : Nat → Bool} {x y st : Nat} (hr : r = true → 4 ≤ w) (h : cv_in S) : vf w r S x y st ≤ 1853020188851841 := by
  by_cases q : vf_x S w x y st
  · rw [vf_0 q]; exact Nat.zero_le _
  · rw [vf_1 q]
    refine cv_big (fun u => by have := hr u; omega) (fun j hj => ?_)
    unfold sf at hj
    simp only [Bool.and_eq_true] at hj
    exact h j hj.1
theorem vo_big {w : Nat} {r : Bool} {S : Nat → Bool} {x y : Nat} {o : Option Nat} (hr : r = true → 4 ≤ w) (h : cv_in S) : vo w r S x y o ≤ 1853020188851841 := by
  cases o with
  | none => exact Nat.zero_le _
  | some n => exact vf_big hr h
section MAKE
variable {w h : Nat} {r : Bool} {S : Nat → Bool} {z : tq_S} {Q : tq_O → tq_S → Prop} {x y st : Nat} {p : Nat → Nat}
theorem jd_in (hd : jd w h r S) : cv_in S := fun j hj => (hd.2.2.2.2.2 j hj).1
theorem jd_r (hd : jd w h r S) : r = true → 4 ≤ w := fun q => (hd.2.2.2.2.1 q).2
/-- a way is taken: what is made -/
theorem sq_put0 (k : Q (.inl none) z) : wm_X5_put (nI x) (nI y) (nI 0) z Q := by
  unfold wm_X5_put
  refine ⟨fun _ => ?_, fun q => by cases q⟩
  unfold wc_X5_put_19
  refine ⟨fun _ => ?_, fun q => by cases q⟩
  unfold wc_X5_put_38
  exact ⟨fun _ => k, fun q => by cases q⟩
theorem sq_put1 (hx : x < 8) (hy : y < 8) (k : ∀ z', fr [(1, 136), (1, 137)] z z' → (∀ j, ct (tq_fl z' 136) j = (ct (tq_fl z 136) j || decide (j = 8 * y + x))) → tq_fl z' 137 = tq_fl z 137 → Q (.inl none) z') : wm_X5_put (nI x) (nI y) (nI 1) z Q := by
  unfold wm_X5_put
  refine ⟨fun q => absurd rfl q, fun _ => ?_⟩
  refine sq_bit ⟨_, rfl, fun z3 e3 => ?_⟩
  unfold wc_X5_put_19
  refine ⟨fun _ => ?_, fun q => by cases q⟩
  unfold wc_X5_put_38
  refine ⟨fun _ => ?_, fun q => by cases q⟩
  refine k z3 (by rw [e3]; exact fr_sfl (by decide) fr_r) (fun j => ?_) (by rw [e3]; rfl)
  rw [e3, rw_fle, ct_or, ct_bit _ (by omega)]
theorem sq_put2 (hx : x < 8) (hy : y < 8) (k : ∀ z', fr [(1, 136), (1, 137)] z z' → (∀ j, ct (tq_fl z' 137) j = (ct (tq_fl z 137) j || decide (j = 8 * y + x))) → tq_fl z' 136 = tq_fl z 136 → Q (.inl none) z') : wm_X5_put (nI x) (nI y) (nI 2) z Q := by
  unfold wm_X5_put
  refine ⟨fun _ => ?_, fun q => by cases q⟩
  unfold wc_X5_put_19
  refine ⟨fun q => absurd rfl q, fun _ => ?_⟩
  refine sq_bit ⟨_, rfl, fun z3 e3 => ?_⟩
  unfold wc_X5_put_38
  refine ⟨fun _ => ?_, fun q => by cases q⟩
  refine k z3 (by rw [e3]; exact fr_sfl (by decide) fr_r) (fun j => ?_) (by rw [e3]; rfl)
  rw [e3, rw_fle, ct_or, ct_bit _ (by omega)]
theorem sq_put3 (hw1 : 1 ≤ w) (hw8 : w ≤ 8) (hz : tq_fi z 64 = nI w) (hy : y < 8) (k : ∀ z', fr [(1, 136), (1, 137)] z z' → (∀ j, ct (tq_fl z' 136) j = (ct (tq_fl z 136) j || decide (j = 8 * y + (w - 1)))) → tq_fl z' 137 = tq_fl z 137 → Q (.inl none) z') : wm_X5_put (nI x) (nI y) (nI 3) z Q := by
  unfold wm_X5_put
  refine ⟨fun _ => ?_, fun q => by cases q⟩
  unfold wc_X5_put_19
  refine ⟨fun _ => ?_, fun q => by cases q⟩
  unfold wc_X5_put_38
  refine ⟨fun q => absurd rfl q, fun _ => ?_⟩
  rw [hz, i_1, pk_sub hw1]
  refine sq_bit ⟨_, rfl, fun z3 e3 => ?_⟩
  refine k z3 (by rw [e3]; exact fr_sfl (by decide) fr_r) (fun j => ?_) (by rw [e3]; rfl)
  rw [e3, rw_fle, ct_or, ct_bit _ (by omega)]
theorem fce_f {b : Option Nat} {x0 : Nat} {F : List (Nat × Nat)} {z1 : tq_S} (hf : fr F z z1) (h4 : (3, 4) ∉ F) (hg : fce w r S b y x0 z) : fce w r S b y x0 z1 := fun x h1 h2 st hv => by rw [fr_al hf h4]; exact hg x h1 h2 st hv
theorem fro_f {F : List (Nat × Nat)} {z1 : tq_S} (hf : fr F z z1) (h4 : (3, 3) ∉ F) (hg : fro w h r S z) : fro w h r S z1 := fun y hy m hm hv => by rw [fr_al hf h4]; exact hg y hy m hm hv
/-- at the end of a row the next one begins -/
theorem si_w (bw : w ≤ 8) (hS : cv_re w h S) : si S w w y st = si S w 0 (y + 1) st ∨ st.testBit 8 = true := by
  cases h8 : st.testBit 8
  · left
    funext j
    by_cases q : 8 * (y + 1) ≤ j
    · rw [si_ge (by omega), si_ge (by omega)]
      by_cases q2 : j / 8 = y + 1
      · rw [sf_nxt q2 bw, sf_row q2, h8, decide_eq_true (Nat.zero_le _)]
        cases hs : S j
        · rfl
        · have := hS j hs
          rw [decide_eq_true (by omega : j % 8 < w)]; simp
      · by_cases q3 : j / 8 = y + 1 + 1
        · rw [sf_far (by omega) q2 bw, sf_nxt q3 bw, decide_eq_false (Nat.not_lt_zero _)]; simp
        · rw [sf_far (by omega) q2 bw, sf_far q2 q3 bw]
    · have e2 : si S w 0 (y + 1) st j = false := by unfold si; rw [decide_eq_false (by omega)]; rfl
      rw [e2]
      cases hc : si S w w y st j
      · rfl
      · rw [si_t] at hc
        have h2 := hc.2
        unfold sf at h2
        simp only [Bool.and_eq_true] at h2
        have := hS j h2.1
        omega
  · right; rfl
theorem si_e {y : Nat} (hS : cv_re w h S) (hy : h ≤ y) (j : Nat) : si S w 0 y st j = false := by
  cases hc : si S w 0 y st j
  · rfl
  · rw [si_t] at hc
    have h2 := hc.2
    unfold sf at h2
    simp only [Bool.and_eq_true] at h2
    have := hS j h2.1
    omega
theorem si_a (hw : 1 ≤ w) (j : Nat) : si S w 0 0 0 j = S j := by
  rw [si_ge (by omega)]
  unfold sf
  simp [Nat.zero_testBit]
theorem si_S {j : Nat} (h : si S w x y st j = true) : S j = true := by
  rw [si_t] at h
  have h2 := h.2
  unfold sf at h2
  simp only [Bool.and_eq_true] at h2
  exact h2.1
/-- what is made so far -/
def mb (w : Nat) (r : Bool) (S T : Nat → Bool) (p : Nat → Nat) (z : tq_S) : Prop := (∀ j, ct (tq_fl z 136) j = ((S j && !T j) && Rp w r p j)) ∧ ∀ j, ct (tq_fl z 137) j = ((S j && !T j) && Dp p j)
theorem mb_n {T : Nat → Bool} {i o : Nat} {z1 : tq_S} (hT : ∀ j, T j = true → S j = true) (hi : T i = true) (ho : T o = true) (hm : mb w r S T p z) (hR : ∀ j, ct (tq_fl z1 136) j = (ct (tq_fl z 136) j || (decide (j = i) && Rp w r p i) || (decide (j = o) && Rp w r p o))) (hD : ∀ j, ct (tq_fl z1 137) j = (ct (tq_fl z 137) j || (decide (j = i) && Dp p i) || (decide (j = o) && Dp p o))) : mb w r S (cv_rm T i o) p z1 := by
  have key : ∀ (a c : Nat → Bool) (b : Nat → Bool), (∀ j, a j = ((S j && !T j) && b j)) → (∀ j, c j = (a j || (decide (j = i) && b i) || (decide (j = o) && b o))) → ∀ j, c j = ((S j && !cv_rm T i o j) && b j) := by
    intro a c b h1 h2 j
    rw [h2, h1]
    unfold cv_rm
    by_cases q1 : j = i
    · subst q1
      rw [hi, hT j hi, decide_eq_true (rfl : j = j)]
      by_cases q2 : j = o
      · subst q2; simp
      · rw [decide_eq_false q2]; simp
    · by_cases q2 : j = o
      · subst q2
        rw [ho, hT j ho, decide_eq_true (rfl : j = j), decide_eq_false q1]; simp
      · rw [decide_eq_false q1, decide_eq_false q2]; simp
  exact ⟨key _ _ _ hm.1 hR, key _ _ _ hm.2 hD⟩
theorem sq_cmake {m : Nat} (hd : jd w h r S) (hj : jc w h r S z) (hf : fro w h r S z) (hm : m < cv_T w r 0 S) (k : ∀ z', fr [(3, 4), (1, 136), (1, 137)] z z' → (∀ j, ct (tq_fl z' 136) j = (S j && Rp w r (ur w r 0 S m) j)) → (∀ j, ct (tq_fl z' 137) j = (S j && Dp (ur w r 0 S m) j)) → Q (.inl none) z') : wm_X5_make (lN m) z Q := by
  have hw8 := hd.2.1
  have hw1 := hd.1
  have hh8 := hd.2.2.2.1
  have hS := hd.2.2.2.2.2
  have hr4 := jd_r hd
  have hin := jd_in hd
  have pw : 2 ^ w ≤ 256 := by
    have : (2 : Nat) ^ w ≤ 2 ^ 8 := Nat.pow_le_pow_right (by omega) hw8
    omega
  obtain ⟨p, hp⟩ : ∃ p, p = ur w r 0 S m := ⟨_, rfl⟩
  rw [← hp] at k
  unfold wm_X5_make
  intro z1 e1 z2 e2
  have f2 : fr [(3, 4), (1, 136), (1, 137)] z z2 := by rw [e2]; refine fr_sfl (by decide) ?_; rw [e1]; exact fr_sfl (by decide) fr_r
  have b2 : mb w r S (si S w 0 0 0) p z2 := by
    have e3 : tq_fl z2 136 = 0 := by rw [e2, e1]; rfl
    have e4 : tq_fl z2 137 = 0 := by rw [e2]; rfl
    refine ⟨fun j => ?_, fun j => ?_⟩
    · rw [e3, ct_0, si_a hw1]; simp
    · rw [e4, ct_0, si_a hw1]; simp
  have s0 : si S w 0 0 0 = S := funext (si_a hw1)
  unfold wc_X5_make_18
  refine lp_inv (fun y s => ∃ z' m' st, s = (lN m', nI st, nI y, z') ∧ fr [(3, 4), (1, 136), (1, 137)] z z' ∧ st < 2 ^ w ∧ m' < cv_T w r (8 * y) (si S w 0 y st) ∧ (∀ j, si S w 0 y st j = true → p j = ur w r (8 * y) (si S w 0 y st) m' j) ∧ mb w r S (si S w 0 y st) p z') h ?_ ⟨z2, m, 0, rfl, f2, Nat.pow_pos (by omega), by rw [s0]; exact hm, fun j _ => by rw [s0, hp], b2⟩
  rintro y s hy ⟨z3, m', st0, rfl, f3, hst0, hm3, hp3, b3⟩ B hB
  simp only
  have j3 := jc_f f3 (by decide) (by decide) (by decide) (by decide) hj
  unfold wb_X5_make_18
  rw [j3.2.1]
  refine ⟨fun h1 => ?_, fun h1 => ?_⟩
  · rw [i_le (by omega) (by omega)] at h1
    refine k z3 f3 (fun j => ?_) (fun j => ?_)
    · rw [b3.1, si_e hS h1]; simp
    · rw [b3.2, si_e hS h1]; simp
  · rw [i_le (by omega) (by omega)] at h1
    have hyh : y < h := by omega
    have g3 := fro_f f3 (by decide) hf
    refine sq_prep (b := some st0) hd j3 hyh (fun mm e => by cases e; exact hst0) (g3 (y + 1) (by omega)) (fun z4 f4 g4 => ⟨rfl, ?_⟩)
    have v0 : vld w r S (some st0) 0 y st0 := vld_m hw8 hst0 (fun _ e => by cases e; rfl)
    have n0 : ¬ vf_x S w 0 y st0 := by
      rintro ⟨q, -⟩
      rw [tb_lt (k := 8) (show st0 < 2 ^ 8 by omega) (by omega)] at q; cases q
    unfold wc_X5_make_41
    refine lp_inv (fun x s => ∃ z' m' st, s = (lN m', nI st, nI x, z') ∧ fr [(3, 4), (1, 136), (1, 137)] z z' ∧ fce w r S (some st0) y 0 z' ∧ vld w r S (some st0) x y st ∧ ¬ vf_x S w x y st ∧ m' < cv_T w r (8 * y + x) (si S w x y st) ∧ (∀ j, si S w x y st j = true → p j = ur w r (8 * y + x) (si S w x y st) m' j) ∧ mb w r S (si S w x y st) p z') w ?_ ⟨z4, m', st0, rfl, fr_t f3 (fr_m (by decide) f4), g4, v0, n0, hm3, hp3, by
      refine ⟨fun j => ?_, fun j => ?_⟩
      · rw [fr_fl f4 (by decide)]; exact b3.1 j
      · rw [fr_fl f4 (by decide)]; exact b3.2 j⟩
    rintro x s hx ⟨z5, m1, st, rfl, f5, g5, v5, n5, hm5, hp5, b5⟩ B' hB'
    simp only
    have j5 := jc_f f5 (by decide) (by decide) (by decide) (by decide) hj
    unfold wb_X5_make_41
    rw [j5.1]
    refine ⟨fun h2 => ?_, fun h2 => ?_⟩
    · rw [i_le (by omega) (by omega)] at h2
      have hxw : x = w := by omega
      subst hxw
      unfold wc_X5_make_127
      intro v e
      rw [i_1, i_add] at e
      subst e
      have n8 : st.testBit 8 = false := by
        cases hc : st.testBit 8
        · rfl
        · exact absurd ⟨hc, Or.inr (Or.inr (Nat.le_refl _))⟩ n5
      have sw := (si_w (h := h) (S := S) (w := x) (y := y) (st := st) hw8 hS).resolve_right (by rw [n8]; exact Bool.false_ne_true)
      have stw : st < 2 ^ x := lt_tb (fun j hj => by
        cases hc : st.testBit j
        · rfl
        · by_cases q8 : j < 8
          · have := v5.2.1 j q8 hc; omega
          · by_cases q9 : j = 8
            · subst q9; rw [n8] at hc; cases hc
            · rw [tb_lt (k := 9) v5.1 (by omega)] at hc; cases hc)
      have eT : cv_T x r (8 * y + x) (si S x 0 (y + 1) st) = cv_T x r (8 * (y + 1)) (si S x 0 (y + 1) st) := by
        have a1 : 8 * (y + 1) = (8 * y + x) + (8 - x) := by omega
        rw [a1]
        refine cv_skip (by omega) (fun j hj1 hj2 => ?_)
        unfold si
        rw [decide_eq_false (by omega)]; rfl
      have eU : ∀ n i m'' (T : Nat → Bool), i + n ≤ 64 → (∀ j, i ≤ j → j < i + n → T j = false) → ur x r i T m'' = ur x r (i + n) T m'' := by
        intro n
        induction n with
        | zero => intro i m'' T _ _; rfl
        | succ n ih =>
          intro i m'' T h1 h2
          rw [ur_s (by omega), if_neg (by rw [h2 i (Nat.le_refl _) (by omega)]; exact Bool.false_ne_true), ih (i + 1) m'' T (by omega) (fun j a b => h2 j (by omega) (by omega))]
          congr 1
          omega
      have eU2 : ur x r (8 * y + x) (si S x 0 (y + 1) st) m1 = ur x r (8 * (y + 1)) (si S x 0 (y + 1) st) m1 := by
        have a1 : 8 * (y + 1) = (8 * y + x) + (8 - x) := by omega
        rw [a1]
        refine eU (8 - x) _ _ _ (by omega) (fun j hj1 hj2 => ?_)
        unfold si
        rw [decide_eq_false (by omega)]; rfl
      rw [sw] at hm5 hp5 b5
      rw [eT] at hm5
      rw [eU2] at hp5
      exact hB hyh _ ⟨z5, m1, st, rfl, f5, stw, hm5, hp5, b5⟩
    · rw [i_le (by omega) (by omega)] at h2
      have hxw : x < w := by omega
      have tot := vf_s (h := h) (S := S) (w := w) (r := r) (x := x) (y := y) (st := st) hw1 hw8 hS hh8 hr4 hxw hyh (fun q => (v5.2.2.1 q).2)
      have tot2 : vf w r S x y st = cv_T w r (8 * y + x) (si S w x y st) := by rw [vf_1 n5, si_T]
      have m1b : m1 < 9223372036854775808 := by
        have := vf_big (w := w) (r := r) (S := S) (x := x) (y := y) (st := st) hr4 hin
        omega
      obtain ⟨V, hV⟩ : ∃ V : Nat → Nat, V = fun k => vo w r S (x + 1) y (af w h r S x y st k) := ⟨_, rfl⟩
      have hVk : ∀ k, vo w r S (x + 1) y (af w h r S x y st k) = V k := fun k => by rw [hV]
      have Vb : ∀ k, V k ≤ 1853020188851841 := fun k => by rw [← hVk]; exact vo_big hr4 hin
      rw [hVk, hVk, hVk, hVk] at tot
      unfold wc_X5_make_56
      refine lp_inv (fun k s => ∃ q, s = (lN (m1 - q), nI k, z5) ∧ q = (if k = 0 then 0 else if k = 1 then V 0 else if k = 2 then V 0 + V 1 else if k = 3 then V 0 + V 1 + V 2 else V 0 + V 1 + V 2 + V 3) ∧ q ≤ m1) 4 ?_ ⟨0, rfl, rfl, Nat.zero_le _⟩
      rintro kk s hk ⟨q, rfl, hq, hqm⟩ B'' hB''
      simp only
      unfold wb_X5_make_56
      rw [i_4]
      refine ⟨fun h3 => ?_, fun h3 => ?_⟩
      · rw [i_le (by omega) (by omega)] at h3
        have : kk = 4 := by omega
        subst this
        rw [if_neg (by omega), if_neg (by omega), if_neg (by omega), if_neg (by omega)] at hq
        omega
      · rw [i_le (by omega) (by omega)] at h3
        refine sq_aft hd j5 hxw hyh v5.1 (by omega) ⟨_, rfl, ?_⟩
        refine sq_onward (by omega) (af_o hw8 hxw v5.1) ⟨_, rfl, ?_⟩
        have eV : vo_l (af w h r S x y st kk) (tq_al z5 4) (x + 1) = lN (V kk) := by
          rw [← hVk]
          exact vo_ln (fun n e => g5 (x + 1) (Nat.zero_le _) hxw n (af_vld hw8 (jd_r hd) hxw v5 e))
        rw [eV]
        have cmp : lN (V kk) ≤ lN (m1 - q) ↔ V kk ≤ m1 - q := pk_lLE (by have := Vb kk; omega) (by omega)
        refine ⟨fun h4 v105 e105 v106 e106 => ?_, fun h4 => ?_⟩
        · rw [cmp] at h4
          rw [l_sub h4] at e105
          rw [i_1, i_add] at e106
          subst e105; subst e106
          refine hB'' (by omega) _ ⟨q + V kk, ?_, ?_, by omega⟩
          · have : m1 - q - V kk = m1 - (q + V kk) := by omega
            rw [this]
          · have : kk = 0 ∨ kk = 1 ∨ kk = 2 ∨ kk = 3 := by omega
            rcases this with rfl | rfl | rfl | rfl
            · rw [if_pos rfl] at hq; rw [if_neg (by omega), if_pos rfl]; omega
            · rw [if_neg (by omega), if_pos rfl] at hq; rw [if_neg (by omega), if_neg (by omega), if_pos rfl]; omega
            · rw [if_neg (by omega), if_neg (by omega), if_pos rfl] at hq; rw [if_neg (by omega), if_neg (by omega), if_neg (by omega), if_pos rfl]; omega
            · rw [if_neg (by omega), if_neg (by omega), if_neg (by omega), if_pos rfl] at hq; rw [if_neg (by omega), if_neg (by omega), if_neg (by omega), if_neg (by omega)]; omega
        · -- this way it goes
          rw [cmp] at h4
          have fin : ∀ n z6, af w h r S x y st kk = some n → ¬ vf_x S w (x + 1) y n → fr [(1, 136), (1, 137)] z5 z6 → m1 - q < cv_T w r (8 * y + (x + 1)) (si S w (x + 1) y n) → (∀ j, si S w (x + 1) y n j = true → p j = ur w r (8 * y + (x + 1)) (si S w (x + 1) y n) (m1 - q) j) → mb w r S (si S w (x + 1) y n) p z6 → wc_X5_make_121 (fun b3 b5 b6 z => B (b3, b5, b6, z)) (fun b3 b5 b7 z => B' (b3, b5, b7, z)) Q (lN (m1 - q)) (bo (af w h r S x y st kk)) (nI y) (nI x) z6 := by
            intro n z6 ea nn f6 q1 q2 q3
            unfold wc_X5_make_121
            intro v e
            rw [i_1, i_add] at e
            subst e
            rw [ea]
            exact hB' hxw _ ⟨z6, m1 - q, n, rfl, fr_t f5 (fr_m (by decide) f6), fce_f f6 (by decide) g5, af_vld hw8 (jd_r hd) hxw v5 ea, nn, q1, q2, q3⟩
          unfold wc_X5_make_93
          cases hopen : sf S w x y st (8 * y + x)
          · -- nothing is put
            obtain ⟨n, ea, nn, he⟩ := st_N (h := h) (r := r) hw8 hS hxw n5 hopen
            have eset := si_0 hopen he
            have k0 : kk = 0 := by
              refine Classical.byContradiction fun hk0 => h4 ?_
              have : V kk = 0 := by
                rw [← hVk]
                have hz : af w h r S x y st kk = none := by
                  by_cases hA : x + 1 = w ∧ st.testBit 8 = true
                  · unfold af; rw [if_pos hA, if_neg (fun u => hk0 u.1)]
                  · have ho : ¬ (S (8 * y + x) = true ∧ st.testBit x = false) := fun u => by
                      rw [(sf_i hxw hw8 n5).mpr ⟨u.1, u.2, hA⟩] at hopen; cases hopen
                    unfold af; rw [if_neg hA, if_pos ho, if_neg hk0]
                rw [hz]; rfl
              omega
            subst k0
            rw [if_pos rfl] at hq
            have e0 : si S w x y st (8 * y + x) = false := by rw [si_ge (Nat.le_refl _)]; exact hopen
            refine sq_put0 ⟨rfl, fin n z5 ea nn fr_r ?_ ?_ ?_⟩
            · rw [eset, hq, ← Nat.add_assoc, ← cv_no (by omega) e0]; exact hm5
            · intro j hj'
              rw [eset] at hj'
              rw [eset, hp5 j hj', ur_s (by omega), if_neg (by rw [e0]; exact Bool.false_ne_true), hq, Nat.add_assoc, Nat.sub_zero]
            · rw [eset]; exact b5
          · -- a piece is put
            have e0 : si S w x y st (8 * y + x) = true := by rw [si_ge (Nat.le_refl _)]; exact hopen
            obtain ⟨a0, a1, a2, a3⟩ := st_v (h := h) (S := S) (w := w) (r := r) (x := x) (y := y) (st := st) hw1 hw8 hS hr4 hxw hyh (fun q => (v5.2.2.1 q).2) n5 hopen
            have V0 : V 0 = 0 := by rw [← hVk, a0]; rfl
            rw [hVk] at a1 a2 a3
            have urx := ur_s (w := w) (r := r) (S := si S w x y st) (m := m1) (show 8 * y + x < 64 by omega)
            rw [if_pos e0, ← a1, ← a2] at urx
            have bnd := si_bh (S := S) (w := w) (x := x) (y := y) (st := st) hS
            have kin : kk = 0 ∨ kk = 1 ∨ kk = 2 ∨ kk = 3 := by omega
            rcases kin with rfl | rfl | rfl | rfl
            · exact absurd (by rw [V0]; exact Nat.zero_le _) h4
            · -- to the right
              rw [if_neg (by omega), if_pos rfl] at hq
              have lt : m1 < V 1 := by omega
              have hR : cv_R w (8 * y + x) (sf S w x y st) = true := by
                rw [← cv_Rc (fun j hj => si_ge hj)]
                cases hc : cv_R w (8 * y + x) (si S w x y st)
                · have : ca w r (8 * y + x) (si S w x y st) = 0 := by unfold ca; rw [hc]; rfl
                  omega
                · rfl
              obtain ⟨n, ea, nn, he⟩ := st_R (h := h) (r := r) hw8 hxw hyh n5 hopen hR
              have eset := si_n (by omega) he
              rw [if_pos lt] at urx
              have hR2 := hR
              unfold cv_R at hR2
              simp only [Bool.and_eq_true, decide_eq_true_eq] at hR2
              have d2 : (8 * y + x) % 8 = x := by omega
              rw [d2] at hR2
              have eo : si S w x y st (8 * y + x + 1) = true := by rw [si_ge (by omega)]; exact hR2.2
              have pi : p (8 * y + x) = 8 * y + x + 1 := by rw [hp5 _ e0, urx]; unfold sw; rw [if_pos rfl]
              have po : p (8 * y + x + 1) = 8 * y + x := by rw [hp5 _ eo, urx]; unfold sw; rw [if_neg (by omega), if_pos rfl]
              have r1 : Rp w r p (8 * y + x) = true := by unfold Rp; rw [pi, d2, decide_eq_true hR2.1, decide_eq_true (rfl : 8 * y + x + 1 = 8 * y + x + 1)]; rfl
              have r2 : Rp w r p (8 * y + x + 1) = false := by
                unfold Rp
                rw [po, decide_eq_false (by omega : ¬ 8 * y + x = 8 * y + x + 1 + 1)]
                cases hr : r
                · simp
                · have := hr4 hr
                  rw [decide_eq_false (by omega : ¬ 8 * y + x + (w - 1) = 8 * y + x + 1)]; simp
              have d1 : Dp p (8 * y + x) = false := by unfold Dp; rw [pi, decide_eq_false (by omega)]
              have dd2 : Dp p (8 * y + x + 1) = false := by unfold Dp; rw [po, decide_eq_false (by omega)]
              refine sq_put1 (by omega) (by omega) (fun z6 f6 q1 q2 => ⟨rfl, fin n z6 ea nn f6 ?_ ?_ ?_⟩)
              · rw [eset, hq, V0, Nat.sub_zero, ← Nat.add_assoc]
                have : ca w r (8 * y + x) (si S w x y st) = cv_T w r (8 * y + x + 1) (cv_rm (si S w x y st) (8 * y + x) (8 * y + x + 1)) := if_pos (by rw [cv_Rc (fun j hj => si_ge hj)]; exact hR)
                omega
              · intro j hj'
                rw [eset] at hj'
                rw [eset, hq, V0, Nat.sub_zero, ← Nat.add_assoc]
                rw [cv_rm_t] at hj'
                rw [hp5 j hj'.1, urx]
                unfold sw
                rw [if_neg hj'.2.1, if_neg hj'.2.2]
              · rw [eset]
                refine mb_n (fun j => si_S) e0 eo b5 (fun j => ?_) (fun j => ?_)
                · rw [q1, r1, r2]; simp
                · rw [q2, d1, dd2]; simp
            · -- down
              rw [if_neg (by omega), if_neg (by omega), if_pos rfl] at hq
              have nlt : ¬ m1 < V 1 := by omega
              have lt : m1 < V 1 + V 2 := by omega
              have hD : sf S w x y st (8 * y + x + 8) = true := by
                rw [← si_ge (by omega)]
                cases hc : si S w x y st (8 * y + x + 8)
                · have : cb w r (8 * y + x) (si S w x y st) = 0 := by unfold cb; rw [hc]; rfl
                  omega
                · rfl
              obtain ⟨n, ea, nn, he⟩ := st_D (h := h) (r := r) hw8 hS hxw n5 hopen hD
              have eset := si_n (by omega) he
              rw [if_neg nlt, if_pos lt] at urx
              have d2 : (8 * y + x) % 8 = x := by omega
              have eo : si S w x y st (8 * y + x + 8) = true := by rw [si_ge (by omega)]; exact hD
              have pi : p (8 * y + x) = 8 * y + x + 8 := by rw [hp5 _ e0, urx]; unfold sw; rw [if_pos rfl]
              have po : p (8 * y + x + 8) = 8 * y + x := by rw [hp5 _ eo, urx]; unfold sw; rw [if_neg (by omega), if_pos rfl]
              have r1 : Rp w r p (8 * y + x) = false := by
                unfold Rp
                rw [pi, decide_eq_false (by omega : ¬ 8 * y + x + 8 = 8 * y + x + 1), decide_eq_false (by omega : ¬ 8 * y + x + 8 + (w - 1) = 8 * y + x)]; simp
              have r2 : Rp w r p (8 * y + x + 8) = false := by
                unfold Rp
                rw [po, decide_eq_false (by omega : ¬ 8 * y + x = 8 * y + x + 8 + 1), decide_eq_false (by omega : ¬ 8 * y + x + (w - 1) = 8 * y + x + 8)]; simp
              have d1 : Dp p (8 * y + x) = true := by unfold Dp; rw [pi, decide_eq_true rfl]
              have dd2 : Dp p (8 * y + x + 8) = false := by unfold Dp; rw [po, decide_eq_false (by omega)]
              refine sq_put2 (by omega) (by omega) (fun z6 f6 q1 q2 => ⟨rfl, fin n z6 ea nn f6 ?_ ?_ ?_⟩)
              · rw [eset, hq, V0, Nat.zero_add, ← Nat.add_assoc]
                have : cb w r (8 * y + x) (si S w x y st) = cv_T w r (8 * y + x + 1) (cv_rm (si S w x y st) (8 * y + x) (8 * y + x + 8)) := if_pos eo
                omega
              · intro j hj'
                rw [eset] at hj'
                rw [eset, hq, V0, Nat.zero_add, ← Nat.add_assoc]
                rw [cv_rm_t] at hj'
                rw [hp5 j hj'.1, urx]
                unfold sw
                rw [if_neg hj'.2.1, if_neg hj'.2.2]
              · rw [eset]
                refine mb_n (fun j => si_S) e0 eo b5 (fun j => ?_) (fun j => ?_)
                · rw [q2, r1, r2]; simp
                · rw [q1, d1, dd2]; simp
            · -- round
              rw [if_neg (by omega), if_neg (by omega), if_neg (by omega), if_pos rfl] at hq
              have nlt : ¬ m1 < V 1 := by omega
              have nlt2 : ¬ m1 < V 1 + V 2 := by omega
              have lt : m1 < V 1 + V 2 + V 3 := by omega
              have hO : cv_O w r (8 * y + x) (sf S w x y st) = true := by
                rw [← cv_Oc (fun j hj => si_ge hj)]
                cases hc : cv_O w r (8 * y + x) (si S w x y st)
                · have : cc w r (8 * y + x) (si S w x y st) = 0 := by unfold cc; rw [hc]; rfl
                  omega
                · rfl
              obtain ⟨n, ea, nn, he⟩ := st_O (h := h) (r := r) hw8 hr4 hxw (fun q => (v5.2.2.1 q).2) n5 hopen hO
              have hO2 := hO
              unfold cv_O at hO2
              simp only [Bool.and_eq_true, decide_eq_true_eq] at hO2
              obtain ⟨⟨hrt, hx0⟩, hO3⟩ := hO2
              have w4 := hr4 hrt
              have d2 : (8 * y + x) % 8 = x := by omega
              rw [d2] at hx0
              subst hx0
              have eset := si_n (S := S) (w := w) (x := 0) (y := y) (st := st) (n := n) (o := 8 * y + 0 + (w - 1)) (by omega) he
              rw [if_neg nlt, if_neg nlt2] at urx
              have eo : si S w 0 y st (8 * y + 0 + (w - 1)) = true := by rw [si_ge (by omega)]; exact hO3
              have pi : p (8 * y + 0) = 8 * y + 0 + (w - 1) := by rw [hp5 _ e0, urx]; unfold sw; rw [if_pos rfl]
              have po : p (8 * y + 0 + (w - 1)) = 8 * y + 0 := by rw [hp5 _ eo, urx]; unfold sw; rw [if_neg (by omega), if_pos rfl]
              have r1 : Rp w r p (8 * y + 0) = false := by
                unfold Rp
                rw [pi, decide_eq_false (by omega : ¬ 8 * y + 0 + (w - 1) = 8 * y + 0 + 1), decide_eq_false (by omega : ¬ (8 * y + 0) % 8 = w - 1)]; simp
              have r2 : Rp w r p (8 * y + 0 + (w - 1)) = true := by
                unfold Rp
                rw [po, hrt, decide_eq_true (by omega : (8 * y + 0 + (w - 1)) % 8 = w - 1), decide_eq_true (rfl : 8 * y + 0 + (w - 1) = 8 * y + 0 + (w - 1))]; simp
              have d1 : Dp p (8 * y + 0) = false := by unfold Dp; rw [pi, decide_eq_false (by omega)]
              have dd2 : Dp p (8 * y + 0 + (w - 1)) = false := by unfold Dp; rw [po, decide_eq_false (by omega)]
              refine sq_put3 hw1 hw8 j5.1 (by omega) (fun z6 f6 q1 q2 => ⟨rfl, fin n z6 ea nn f6 ?_ ?_ ?_⟩)
              · rw [eset, hq, V0, Nat.zero_add, ← Nat.add_assoc]
                have : cc w r (8 * y + 0) (si S w 0 y st) = cv_T w r (8 * y + 0 + 1) (cv_rm (si S w 0 y st) (8 * y + 0) (8 * y + 0 + (w - 1))) := if_pos (by rw [cv_Oc (fun j hj => si_ge hj)]; exact hO)
                omega
              · intro j hj'
                rw [eset] at hj'
                have e9 : m1 - (V 0 + V 1 + V 2) = m1 - V 1 - V 2 := by omega
                rw [eset, hq, e9]
                rw [cv_rm_t] at hj'
                rw [hp5 j hj'.1, urx]
                unfold sw
                rw [if_neg hj'.2.1, if_neg hj'.2.2]
              · rw [eset]
                refine mb_n (fun j => si_S) e0 eo b5 (fun j => ?_) (fun j => ?_)
                · rw [q1, r1, r2, Nat.add_zero]; simp
                · rw [q2, d1, dd2]; simp
end MAKE
