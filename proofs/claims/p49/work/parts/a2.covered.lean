section CVB
variable {w h : Nat} {r : Bool} {S : Nat → Bool} {z : tq_S} {Q : tq_O → tq_S → Prop}
theorem i_utb {m k : Nat} (hm : m < 2147483648) (hk : k < 31) : ((((Int32.toUInt32 (nI m)) >>> ((Int32.toUInt32 (nI k)) &&& Int32.toUInt32 31)).toInt32 &&& (1 : Int32)) = 0) ↔ m.testBit k = false := by
  have hd := Nat.div_le_self m (2 ^ k)
  rw [pk_ushrN (by omega) (nI k) k (ib_su ⟨k, by omega⟩), i_1, i_and, Nat.and_one_is_mod, show (0 : Int32) = nI 0 from rfl, i_eq (by omega) (by omega), Nat.testBit_eq_decide_div_mod_eq, decide_eq_false_iff_not]
  omega
theorem tb_set {m k b : Nat} : (m ||| 2 ^ k).testBit b = (m.testBit b || decide (b = k)) := by
  rw [Nat.testBit_or, Nat.testBit_two_pow]
  congr 1
  by_cases q : b = k
  · rw [decide_eq_true q, decide_eq_true q.symm]
  · rw [decide_eq_false q, decide_eq_false (fun e => q e.symm)]
theorem or_lt {m k n : Nat} (hm : m < 2 ^ n) (hk : k < n) : m ||| 2 ^ k < 2 ^ n := Nat.or_lt_two_pow hm (Nat.pow_lt_pow_right (by omega) hk)
/-- the motions that the board bears -/
noncomputable def grB (w h : Nat) (r : Bool) (S : Nat → Bool) (m : Nat) : Bool := decide (m = 0) || (decide (m < 8) && gok w h S m && !r)
def grd (w h : Nat) (r : Bool) (S : Nat → Bool) (g : Nat) (z : tq_S) : Prop := tq_fi z 1806 = nI g ∧ g < 256 ∧ (∀ b, g.testBit b = grB w h r S b) ∧ ∀ m, m < 8 → gok w h S m = true → mvd w h S m z
theorem sq_findGroup (hd : jd w h r S) (hj : jc w h r S z) (hn : cnm S z) (h24 : fb_ct S 64 ≤ 24) (kk : ∀ z', fr [(2, 33), (0, 1806)] z z' → (∃ g, grd w h r S g z') → Q (.inl none) z') : wm_X4_findGroup z Q := by
  unfold wm_X4_findGroup
  intro z1 e1
  have f1 : fr [(2, 33), (0, 1806)] z z1 := by rw [e1]; exact fr_sfi (by decide) fr_r
  have g1 : tq_fi z1 1806 = nI 1 := by rw [e1]; rfl
  unfold wc_X4_findGroup_7
  refine lp_inv (fun m st => ∃ z' g, st = (nI m, z') ∧ fr [(2, 33), (0, 1806)] z z' ∧ tq_fi z' 1806 = nI g ∧ g < 256 ∧ (∀ b, g.testBit b = (decide (b = 0) || (decide (b < m) && gok w h S b && !r))) ∧ ∀ b, b < m → gok w h S b = true → mvd w h S b z') 8 ?_ ⟨z1, 1, rfl, f1, g1, by omega, fun b => by
    rw [decide_eq_false (Nat.not_lt_zero b), Bool.false_and, Bool.false_and, Bool.or_false]
    have := tb_set (m := 0) (k := 0) (b := b)
    rw [Nat.zero_testBit, Bool.false_or] at this
    exact this, fun b hb => absurd hb (Nat.not_lt_zero _)⟩
  rintro m st hm ⟨z2, g, rfl, f2, g2, gl, gb, gm⟩ B hB
  simp only
  unfold wb_X4_findGroup_7
  rw [i_8, i_le (by omega) (by omega)]
  refine ⟨fun q => ?_, fun q => ?_⟩
  · have : m = 8 := by omega
    subst this
    exact kk z2 f2 ⟨g, g2, gl, gb, gm⟩
  have j2 := jc_f f2 (by decide) (by decide) (by decide) (by decide) hj
  have n2 := cnm_f f2 (by decide) (by decide) (by decide) hn
  have keep : ∀ z3 b, fr [(2, 33)] z2 z3 → (∀ j, j < 24 * m ∨ 24 * m + 24 ≤ j → tq_ai z3 33 j = tq_ai z2 33 j) → b < m → gok w h S b = true → mvd w h S b z3 := fun z3 b f3 o3 hb hg i hi => by
    rw [o3 _ (by omega)]
    exact gm b hb hg i hi
  have nx : ∀ z4 g', fr [(2, 33), (0, 1806)] z z4 → tq_fi z4 1806 = nI g' → g' < 256 → (∀ b, g'.testBit b = (decide (b = 0) || (decide (b < m + 1) && gok w h S b && !r))) → (∀ b, b < m + 1 → gok w h S b = true → mvd w h S b z4) → wc_X4_findGroup_43 (fun b1 z => B (b1, z)) Q (nI m) z4 := by
    intro z4 g' f4 g4 l4 b4 m4
    unfold wc_X4_findGroup_43
    intro v e
    rw [i_1, i_add] at e
    subst e
    exact hB (by omega) _ ⟨z4, g', rfl, f4, g4, l4, b4, m4⟩
  have one : ∀ b, b ≠ m → (decide (b < m + 1)) = decide (b < m) := fun b hb => by
    by_cases u : b < m
    · rw [decide_eq_true u, decide_eq_true (by omega)]
    · rw [decide_eq_false u, decide_eq_false (by omega)]
  have lm : decide (m < m) = false := decide_eq_false (Nat.lt_irrefl m)
  have lm1 : decide (m < m + 1) = true := decide_eq_true (Nat.lt_succ_self m)
  refine sq_fillMoved hd j2 n2 h24 (by omega) (fun hg z3 f3 o3 => ⟨_, rfl, fun _ => ?_, fun e => absurd rfl e⟩) (fun hg z3 f3 o3 d3 => ⟨_, rfl, fun e => absurd e (by decide +kernel), fun _ => ⟨fun e => ?_, fun e => ?_⟩⟩)
  · refine nx z3 g (fr_t f2 (fr_m (by decide) f3)) (by rw [fr_fi f3 (by decide)]; exact g2) gl (fun b => ?_) (fun b hb hgb => ?_)
    · rw [gb]
      by_cases u : b = m
      · rw [u, lm, lm1, hg]; rfl
      · rw [one b u]
    · have ne : b ≠ m := fun e => by rw [e, hg] at hgb; cases hgb
      exact keep z3 b f3 o3 (by omega) hgb
  · have j3 := jc_f f3 (by decide) (by decide) (by decide) (by decide) j2
    rw [j3.2.2.1] at e
    have hr : r = true := by
      cases r
      · exact absurd rfl e
      · rfl
    refine nx z3 g (fr_t f2 (fr_m (by decide) f3)) (by rw [fr_fi f3 (by decide)]; exact g2) gl (fun b => ?_) (fun b hb hgb => ?_)
    · rw [gb, hr, Bool.not_true, Bool.and_false, Bool.and_false]
    · by_cases u : b = m
      · rw [u]; exact d3
      · exact keep z3 b f3 o3 (by omega) hgb
  · have j3 := jc_f f3 (by decide) (by decide) (by decide) (by decide) j2
    rw [j3.2.2.1, bi_0] at e
    intro z4 e4
    have e5 : tq_fi z3 1806 ||| ((1 : Int32) <<< (nI m &&& 31)) = nI (g ||| 2 ^ m) := by rw [fr_fi f3 (by decide), g2, i_pw (by omega), i_or]
    rw [e5] at e4
    refine nx z4 (g ||| 2 ^ m) (by rw [e4]; exact fr_sfi (by decide) (fr_t f2 (fr_m (by decide) f3))) (by rw [e4]; rfl) (or_lt (n := 8) gl (by omega)) (fun b => ?_) (fun b hb hgb => ?_)
    · rw [tb_set, gb]
      by_cases u : b = m
      · rw [u, lm, lm1, hg, e, decide_eq_true rfl]; simp
      · rw [one b u, decide_eq_false u, Bool.or_false]
    · rw [e4]
      by_cases u : b = m
      · rw [u]; exact d3
      · exact keep z3 b f3 o3 (by omega) hgb
/-! the cells of a shape -/
def cpx (w : Nat) (r : Bool) (fx part j : Nat) : Int := if r = true then ((fx : Int) - (part : Int) + (j : Int)) % (w : Int) else (fx : Int) - (part : Int) + (j : Int)
/-- the cells of a shape, one part of which is at a cell, by their numbers -/
def cvF (w : Nat) (r : Bool) (S : Nat → Bool) (s : Int64) (fx fy part fst : Nat) : Nat → Option Nat
  | 0 => some 0
  | i + 1 => match cvF w r S s fx fy part fst i with
    | none => none
    | some m => if ct s i = true then (if cix S (cpx w r fx part (i % 6)) ((fy + i / 6 : Nat) : Int) < (fst : Int) ∨ m.testBit (cix S (cpx w r fx part (i % 6)) ((fy + i / 6 : Nat) : Int)).toNat = true then none else some (m ||| 2 ^ (cix S (cpx w r fx part (i % 6)) ((fy + i / 6 : Nat) : Int)).toNat)) else some m
theorem fmk_6 : ∀ (a : Fin 8) (p : Fin 6) (j : Fin 6) (t : Fin 9), t.val ≠ 0 → (if 0 ≤ ((nI a.val - nI p.val + nI j.val) ^^^ nI t.val) then (((nI a.val - nI p.val + nI j.val) - (nI a.val - nI p.val + nI j.val) / nI t.val * nI t.val)) else (if (((nI a.val - nI p.val + nI j.val) - (nI a.val - nI p.val + nI j.val) / nI t.val * nI t.val)) = 0 then (((nI a.val - nI p.val + nI j.val) - (nI a.val - nI p.val + nI j.val) / nI t.val * nI t.val)) else ((((nI a.val - nI p.val + nI j.val) - (nI a.val - nI p.val + nI j.val) / nI t.val * nI t.val)) + nI t.val))) = nI (((a.val : Int) - p.val + j.val) % (t.val : Int)).toNat := by decide +kernel
theorem cix_b (S : Nat → Bool) (x y : Int) (h24 : fb_ct S 64 ≤ 24) : -1 ≤ cix S x y ∧ cix S x y < 24 := by
  unfold cix
  split
  · rename_i u
    have := ct_in (p := S) (i := 8 * y.toNat + x.toNat) (n := 64) (by omega) u.2.2.2.2
    omega
  · omega
theorem cvF_b {s : Int64} {fx fy part fst : Nat} (h24 : fb_ct S 64 ≤ 24) : ∀ (i : Nat) (m : Nat), cvF w r S s fx fy part fst i = some m → m < 2 ^ 24
  | 0, m, e => by
    have : (0 : Nat) = m := Option.some.inj e
    rw [← this]; decide
  | i + 1, m, e => by
    have c := cix_b S (cpx w r fx part (i % 6)) ((fy + i / 6 : Nat) : Int) h24
    unfold cvF at e
    cases q : cvF w r S s fx fy part fst i with
    | none => rw [q] at e; cases e
    | some m' =>
      have ih := cvF_b h24 i m' q
      rw [q] at e
      dsimp only at e
      by_cases u : ct s i = true
      · rw [if_pos u] at e
        by_cases v : cix S (cpx w r fx part (i % 6)) ((fy + i / 6 : Nat) : Int) < (fst : Int) ∨ m'.testBit (cix S (cpx w r fx part (i % 6)) ((fy + i / 6 : Nat) : Int)).toNat = true
        · rw [if_pos v] at e; cases e
        · rw [if_neg v] at e
          rw [← Option.some.inj e]
          exact or_lt ih (by omega)
      · rw [if_neg u] at e
        rw [← Option.some.inj e]; exact ih
theorem cvF_n {s : Int64} {fx fy part fst : Nat} {i : Nat} (e : cvF w r S s fx fy part fst i = none) : ∀ d, cvF w r S s fx fy part fst (i + d) = none
  | 0 => e
  | d + 1 => by
    show (match cvF w r S s fx fy part fst (i + d) with
    | none => none
    | some m => _) = none
    rw [cvF_n e d]
theorem sq_coveredBy {s : Int64} {part fst : Nat} (hd : jd w h r S) (hj : jc w h r S z) (hn : cnm S z) (h24 : fb_ct S 64 ≤ 24) (hp : part < 6) (hf : fst < fb_ct S 64) (kk : Q (.inl (some (.int (nI ((cvF w r S s (kth S fst % 8) (kth S fst / 8) part fst 36).getD 0))))) z) : wm_X4_coveredBy s (nI part) (nI fst) z Q := by
  have hw1 := hd.1
  have hw8 := hd.2.1
  obtain ⟨c, hc⟩ : ∃ c, c = kth S fst := ⟨_, rfl⟩
  obtain ⟨c64, cS⟩ := kth_in (p := S) hf
  rw [← hc] at c64 cS kk
  have a31 : tq_ai z 31 fst = nI c := by rw [hn.2.1 fst hf, hc]
  have q8 : nI c - nI c / (8 : Int32) * (8 : Int32) = nI (c % 8) := by rw [i_8]; exact pk_rem (by omega) (by omega) (by omega)
  have d8 : nI c / (8 : Int32) = nI (c / 8) := by rw [i_8]; exact pk_div (by omega) (by omega) (by omega)
  have q6 : nI part - nI part / (6 : Int32) * (6 : Int32) = nI part := by
    rw [i_6, pk_rem (by omega) (by omega) (by omega), Nat.mod_eq_of_lt hp]
  have d6 : nI part / (6 : Int32) = nI 0 := by
    rw [i_6, pk_div (by omega) (by omega) (by omega), Nat.div_eq_of_lt hp]
  unfold wm_X4_coveredBy
  rw [i_cl (by omega), a31]
  refine ⟨i_in (by omega) (by omega), fun v1 e1 => ⟨i_in (by omega) (by omega), fun v2 e2 => ?_⟩⟩
  rw [q8, q6] at e1
  rw [d8, d6, pk_sub (by omega), Nat.sub_zero] at e2
  subst e1
  subst e2
  unfold wc_X4_coveredBy_40
  refine lp_inv (fun i st => ∃ m, cvF w r S s (c % 8) (c / 8) part fst i = some m ∧ st = (nI m, nI i, z)) 36 ?_ ⟨0, rfl, rfl⟩
  rintro i st hi ⟨m, hm, rfl⟩ B hB
  simp only
  unfold wb_X4_coveredBy_40
  rw [i_36, i_le (by omega) (by omega)]
  have mb := cvF_b h24 i m hm
  refine ⟨fun q => ?_, fun q => ?_⟩
  · have : i = 36 := by omega
    subst this
    rw [hm] at kk
    exact kk
  have i36 : i < 36 := by omega
  have stp : cvF w r S s (c % 8) (c / 8) part fst (i + 1) = if ct s i = true then (if cix S (cpx w r (c % 8) part (i % 6)) ((c / 8 + i / 6 : Nat) : Int) < (fst : Int) ∨ m.testBit (cix S (cpx w r (c % 8) part (i % 6)) ((c / 8 + i / 6 : Nat) : Int)).toNat = true then none else some (m ||| 2 ^ (cix S (cpx w r (c % 8) part (i % 6)) ((c / 8 + i / 6 : Nat) : Int)).toNat)) else some m := by
    show (match cvF w r S s (c % 8) (c / 8) part fst i with
    | none => none
    | some m => _) = _
    rw [hm]
  have nx : ∀ m', cvF w r S s (c % 8) (c / 8) part fst (i + 1) = some m' → wc_X4_coveredBy_190 (fun b7 b8 z => B (b7, b8, z)) Q s (nI fst) (nI (c % 8) - nI part) (nI (c / 8)) (nI m') (nI i) z := by
    intro m' hm'
    unfold wc_X4_coveredBy_190
    intro v e
    rw [i_1, i_add] at e
    subst e
    exact hB i36 _ ⟨m', hm', rfl⟩
  rw [ct_t1 (by omega)]
  refine ⟨fun e => nx m (by rw [stp, if_neg (by rw [e]; exact Bool.false_ne_true)]), fun e v1 ev => ?_⟩
  have e : ct s i = true := by simpa using e
  rw [if_pos e] at stp
  have q6' : nI i - nI i / (6 : Int32) * (6 : Int32) = nI (i % 6) := by rw [i_6]; exact pk_rem (by omega) (by omega) (by omega)
  have d6' : nI i / (6 : Int32) = nI (i / 6) := by rw [i_6]; exact pk_div (by omega) (by omega) (by omega)
  rw [q6'] at ev
  -- what is done with a cell's number
  have lastp : ∀ s0 : Int32, s0.toInt = cix S (cpx w r (c % 8) part (i % 6)) ((c / 8 + i / 6 : Nat) : Int) → wc_X4_coveredBy_160 (fun b7 b8 z => B (b7, b8, z)) Q s (nI fst) (nI (c % 8) - nI part) (nI (c / 8)) (nI m) (nI i) s0 z := by
    intro s0 hs0
    have cb := cix_b S (cpx w r (c % 8) part (i % 6)) ((c / 8 + i / 6 : Nat) : Int) h24
    rw [← hs0] at stp cb
    unfold wc_X4_coveredBy_160
    have none0 : cvF w r S s (c % 8) (c / 8) part fst (i + 1) = none → Q (.inl (some (.int 0))) z := fun e0 => by
      have := cvF_n e0 (35 - i)
      rw [show i + 1 + (35 - i) = 36 by omega] at this
      rw [this] at kk
      exact kk
    refine ⟨fun q2 => none0 ?_, fun q2 => ?_⟩
    · rw [nu_lt, i_ti (by omega)] at q2
      rw [stp, if_pos (Or.inl q2)]
    · rw [nu_lt, i_ti (by omega)] at q2
      obtain ⟨k, hk, rfl⟩ : ∃ k, k < 24 ∧ s0 = nI k := ⟨s0.toInt.toNat, by omega, by rw [nu_eq, i_ti (by omega)]; omega⟩
      rw [i_ti (by omega)] at stp q2
      rw [Int.toNat_natCast] at stp
      rw [i_utb (by omega) (by omega)]
      refine ⟨fun q3 v ev2 => ?_, fun q3 => none0 ?_⟩
      · rw [i_pw (by omega), i_or] at ev2
        subst ev2
        refine nx _ ?_
        rw [stp, if_neg (fun u => u.elim (fun a => q2 a) (fun a => by rw [a] at q3; cases q3))]
      · have q3 : m.testBit k = true := by simpa using q3
        rw [stp, if_pos (Or.inr q3)]
  have mid : ∀ X : Int32, X.toInt = cpx w r (c % 8) part (i % 6) → wc_X4_coveredBy_95 (fun b7 b8 z => B (b7, b8, z)) Q s (nI fst) (nI (c % 8) - nI part) (nI (c / 8)) (nI m) (nI i) X z := by
    intro X hX
    unfold wc_X4_coveredBy_95
    intro v2 ev2
    rw [d6', i_add] at ev2
    subst ev2
    have out : (X.toInt < 0 ∨ 8 ≤ X.toInt ∨ 8 ≤ c / 8 + i / 6) → wc_X4_coveredBy_135 (fun b7 b8 z => B (b7, b8, z)) Q s (nI fst) (nI (c % 8) - nI part) (nI (c / 8)) (nI m) (nI i) X (nI (c / 8 + i / 6)) z := by
      intro u
      unfold wc_X4_coveredBy_135 wc_X4_coveredBy_136
      refine ⟨fun _ => lastp _ ?_, fun q => absurd rfl q⟩
      rw [show (-1 : Int32).toInt = -1 from by decide +kernel]
      unfold cix
      rw [← hX, if_neg (by omega)]
    refine ⟨fun q2 => out (Or.inl (by rw [nu_lt] at q2; exact q2)), fun q2 => ⟨fun q3 => out (Or.inr (Or.inl ?_)), fun q3 => ⟨fun q4 => ?_, fun q4 => ⟨fun q5 => out (Or.inr (Or.inr ?_)), fun q5 => ?_⟩⟩⟩⟩
    · rw [i_8, nu_le, i_ti (by omega)] at q3; exact q3
    · rw [show (0 : Int32) = nI 0 from rfl, i_lt (by omega) (by omega)] at q4; omega
    · rw [i_8, i_le (by omega) (by omega)] at q5; exact q5
    · rw [nu_lt, show (0 : Int32).toInt = 0 from rfl] at q2
      rw [i_8, nu_le, i_ti (by omega)] at q3
      rw [i_8, i_le (by omega) (by omega)] at q5
      obtain ⟨x, hx, rfl⟩ : ∃ x, x < 8 ∧ X = nI x := ⟨X.toInt.toNat, by omega, by rw [nu_eq, i_ti (by omega)]; omega⟩
      unfold wc_X4_coveredBy_136
      refine ⟨fun q => absurd q (by decide +kernel), fun _ => ?_⟩
      rw [i_8, pk_mul, i_add, i_cl (by omega)]
      refine ⟨i_in (by omega) (by omega), lastp _ ?_⟩
      rw [hn.2.2 _ (by omega), ← hX, i_ti (by omega)]
      unfold cix
      rw [Int.toNat_natCast, Int.toNat_natCast]
      by_cases u : S (8 * (c / 8 + i / 6) + x) = true
      · have := ct_in (p := S) (i := 8 * (c / 8 + i / 6) + x) (n := 64) (by omega) u
        rw [if_pos u, if_pos ⟨by omega, by omega, by omega, by omega, u⟩, i_ti (by omega)]
      · rw [if_neg u, if_neg (fun q => u q.2.2.2.2)]; decide +kernel
  rw [hj.2.2.1, hj.1]
  refine ⟨fun q2 => mid v1 ?_, fun q2 => ?_⟩
  · rw [bi_0] at q2
    unfold cpx
    rw [if_neg (by rw [q2]; exact Bool.false_ne_true), ev]
    have s1 := nu_sub (a := nI (c % 8)) (b := nI part) (by rw [i_ti (by omega), i_ti (by omega)]; omega) (by rw [i_ti (by omega), i_ti (by omega)]; omega)
    rw [i_ti (by omega), i_ti (by omega)] at s1
    rw [nu_add (by rw [s1, i_ti (by omega)]; omega) (by rw [s1, i_ti (by omega)]; omega), s1, i_ti (by omega)]
  · rw [bi_n] at q2
    refine fw_J9_floorMod_7cf53 ?_ ⟨_, rfl, mid _ ?_⟩
    · unfold fg_J9_floorMod_7cf53
      rw [show (0 : Int32) = nI 0 from rfl, i_eq (by omega) (by omega)]; omega
    · have k := fmk_6 ⟨c % 8, by omega⟩ ⟨part, hp⟩ ⟨i % 6, by omega⟩ ⟨w, by omega⟩ (by show w ≠ 0; omega)
      unfold fx_J9_floorMod_7cf53
      rw [ev]
      refine Eq.trans (congrArg Int32.toInt k) ?_
      dsimp only
      have e0 := Int.emod_nonneg ((c % 8 : Nat) - (part : Int) + (i % 6 : Nat)) (show (w : Int) ≠ 0 by omega)
      have e1 := Int.emod_lt_of_pos ((c % 8 : Nat) - (part : Int) + (i % 6 : Nat)) (show (0 : Int) < (w : Int) by omega)
      unfold cpx
      rw [if_pos q2, i_ti (by omega)]
      omega
end CVB
