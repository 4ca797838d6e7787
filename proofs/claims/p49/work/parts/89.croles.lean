section CROLES
variable {w h : Nat} {r : Bool} {S : Nat → Bool} {z : tq_S} {Q : tq_O → tq_S → Prop}
/-- what is known in between -/
def pin (w : Nat) (r : Bool) (S : Nat → Bool) (m : Nat → Nat) (Zd Zl : Nat → Bool) (P : Nat → Bool) (z : tq_S) : Prop := mar S m (tq_ai z 20) ∧ mg w r S m ∧ (∀ x, x < 64 → ct (tq_fl z 1221) x = (S x && decide (m x = x))) ∧ (∀ d, Zd d = true → d < 64 ∧ S d = true ∧ dk d = true) ∧ (∀ d l, Zd d = true → l < 64 → S l = true → nb w r d l = true → Zl l = true) ∧ (∀ l, Zl l = true → S l = true ∧ dk l = false ∧ m l ≠ l ∧ Zd (m l) = true) ∧ (∀ d, S d = true → dk d = true → m d = d → Zd d = true ∨ P d = true) ∧ ∀ d, d < 64 → P d = true → S d = true ∧ dk d = true ∧ m d = d ∧ Zd d = false
def FPa : List (Nat × Nat) := [(2, 20), (2, 21), (2, 22), (1, 1221)]
theorem sq_pair (hd : jd w h r S) (hj : jc w h r S z) (kk : ∀ z' m Zd Zl, fr FPa z z' → pin w r S m Zd Zl (fun _ => false) z' → Q (.inl none) z') : wm_X9_pair z Q := by
  have hre := hd.2.2.2.2.2
  unfold wm_X9_pair
  refine fw_J7_fill_53178_r2 ⟨rfl, ?_⟩
  obtain ⟨z1, e1⟩ : ∃ z1, z1 = fl_i z 20 0 64 (-1) := ⟨_, rfl⟩
  rw [← e1]
  have f1 : fr FPa z z1 := by rw [e1]; unfold fl_i; exact fr_sai (by decide) fr_r
  have a1 : ∀ x, x < 64 → tq_ai z1 20 x = -1 := fun x hx => by rw [e1]; unfold fl_i; rw [rw_aie, if_pos ⟨by omega, hx⟩]
  clear e1
  intro z2 e2 v3 e3
  have c67 : tq_fl z1 67 = tq_fl z 67 := fr_fl f1 (by decide)
  have f2 : fr FPa z z2 := by rw [e2]; exact fr_sfl (by decide) f1
  have c67' : tq_fl z2 67 = tq_fl z 67 := fr_fl f2 (by decide)
  have p2 : pin w r S (fun x => x) (fun _ => false) (fun _ => false) (ct v3) z2 := by
    have hP : ∀ d, d < 64 → ct v3 d = (S d && dk d) := fun d hd' => by rw [e3, ct_and, c67', hj.2.2.2, dk_c d hd']
    refine ⟨fun x hx => ?_, fun x hx => ⟨hx, rfl, Or.inl rfl⟩, fun x hx => ?_, fun d e => (by cases e), fun d l e => (by cases e), fun l e => (by cases e), fun d h1 h2 _ => Or.inr (by rw [hP d (hre d h1).1, h1, h2]; rfl), fun d hd' h1 => ?_⟩
    · rw [e2, rw_ai_fl, a1 x hx, if_neg (fun e => e.2 rfl)]
    · rw [e2, rw_fle, c67, hj.2.2.2, decide_eq_true rfl, Bool.and_true]
    · rw [hP d hd', Bool.and_eq_true] at h1
      exact ⟨h1.1, h1.2, rfl, rfl⟩
  clear e2 e3
  unfold wc_X9_pair_33
  refine lp_inv (fun i t => ∃ (P : Int64) (m : Nat → Nat) (Zd Zl : Nat → Bool) (z' : tq_S), t = (P, nI i, z') ∧ fr FPa z z' ∧ pin w r S m Zd Zl (ct P) z' ∧ fb_ct (ct P) 64 + i ≤ 64) 64 ?_ ⟨v3, _, _, _, z2, rfl, f2, p2, by have := fb_ct_le (ct v3) 64; omega⟩
  rintro i t hi ⟨P, m, Zd, Zl, z3, rfl, f3, p3, c3⟩ B hB
  simp only
  have fin : (∀ d, d < 64 → ct P d = false) → Q (.inl none) z3 := by
    intro hP
    obtain ⟨q1, q2, q3, q4, q5, q6, q7, q8⟩ := p3
    refine kk z3 m Zd Zl f3 ⟨q1, q2, q3, q4, q5, q6, fun d h1 h2 h3 => ?_, fun d _ e => (by cases e)⟩
    rcases q7 d h1 h2 h3 with u | u
    · exact Or.inl u
    · rw [hP d (hre d h1).1] at u; cases u
  unfold wb_X9_pair_33
  rw [i_64, i_le (by omega) (by omega)]
  refine ⟨fun u => fin (fun d hd' => fb_ct_zero.mp (by omega) d hd'), fun u => ⟨fun u2 => fin (fun d _ => by rw [u2, ct_0]), fun u2 => ?_⟩⟩
  have hB := hB (by omega)
  obtain ⟨q1, q2, q3, q4, q5, q6, q7, q8⟩ := p3
  refine sq_lowest u2 (fun s s64 s1 s2 => ⟨_, rfl, fun P' eP => ?_⟩)
  have P'v : ∀ x, x < 64 → ct P' x = (if x = s then false else ct P x) := fun x hx => by rw [eP]; exact (ct_lo s1 s2 hx).2
  have cP : fb_ct (ct P') 64 + 1 = fb_ct (ct P) 64 := by
    rw [← ct_ex (P := ct P) (n := 64) s64 s1]
    congr 1
    refine fb_ct_cong (fun x hx => ?_)
    rw [P'v x hx]
    by_cases e : x = s
    · rw [if_pos e, decide_eq_true e]; simp
    · rw [if_neg e, decide_eq_false e]; simp
  obtain ⟨sS, sk, sf, sz'⟩ := q8 s s64 s1
  have j3 := jc_f f3 (by decide) (by decide) (by decide) (by decide) hj
  refine sq_findFree hd j3 q2 q1 sS sk (fun z4 Yd Yl f4 y4 => ⟨_, rfl, fun _ => ?_, fun e => absurd (show (-1 : Int32) < 0 by decide +kernel) e⟩) (fun z4 n q L pa k t f4 b4 hk t64 tS tk tf tfr tn => ⟨_, rfl, fun e => absurd e (i_n0 (by omega)), fun _ z5 e5 => ?_⟩)
  · obtain ⟨y1, y2, y3, y5⟩ := y4
    unfold wc_X9_pair_98
    intro v ev
    rw [i_1, i_add] at ev
    refine hB _ ⟨P', m, fun d => Zd d || Yd d, fun l => Zl l || Yl l, z4, by rw [ev], fr_t f3 (fr_m (by decide) f4), ⟨by rw [fr_ai f4 (by decide)]; exact q1, q2, by rw [fr_fl f4 (by decide)]; exact q3, fun d hd' => ?_, fun d l hd' hl hS hn => ?_, fun l hl => ?_, fun d h1 h2 h3 => ?_, fun d hd' h1 => ?_⟩, by omega⟩
    · have hd' : (Zd d || Yd d) = true := hd'
      rw [Bool.or_eq_true] at hd'
      rcases hd' with e | e
      · exact q4 d e
      · exact ⟨(y2 d e).1, (y2 d e).2.1, (y2 d e).2.2.1⟩
    · have hd' : (Zd d || Yd d) = true := hd'
      rw [Bool.or_eq_true] at hd'
      show (Zl l || Yl l) = true
      rcases hd' with e | e
      · rw [q5 d l e hl hS hn]; rfl
      · rw [y3 d l e hl hS hn]; simp
    · have hl : (Zl l || Yl l) = true := hl
      rw [Bool.or_eq_true] at hl
      rcases hl with e | e
      · obtain ⟨x1, x2, x3, x4⟩ := q6 l e
        exact ⟨x1, x2, x3, by show (Zd (m l) || Yd (m l)) = true; rw [x4]; rfl⟩
      · obtain ⟨x0, x1, x2, x3, x4⟩ := y5 l e
        exact ⟨x1, x2, x3, by show (Zd (m l) || Yd (m l)) = true; rw [x4]; simp⟩
    · show (Zd d || Yd d) = true ∨ _
      rcases q7 d h1 h2 h3 with e | e
      · exact Or.inl (by rw [e]; rfl)
      · by_cases e2 : d = s
        · exact Or.inl (by rw [e2, y1]; simp)
        · exact Or.inr (by rw [P'v d (hre d h1).1, if_neg e2]; exact e)
    · rw [P'v d hd'] at h1
      by_cases e2 : d = s
      · rw [if_pos e2] at h1; cases h1
      · rw [if_neg e2] at h1
        obtain ⟨x1, x2, x3, x4⟩ := q8 d hd' h1
        refine ⟨x1, x2, x3, ?_⟩
        show (Zd d || Yd d) = false
        rw [x4]
        cases e : Yd d
        · rfl
        · rcases (y2 d e).2.2.2 with u | u
          · exact absurd u e2
          · exact absurd x3 u
  · have f5 : fr FPa z z5 := by rw [e5]; exact fr_sfl (by decide) (fr_t f3 (fr_m (by decide) f4))
    have al5 : ∀ x, x < 64 → ct (tq_fl z5 1221) x = (S x && decide (m x = x) && !(decide (x = s) || decide (x = t))) := by
      intro x hx
      rw [e5, rw_fle, ct_and, ct_not, ct_or, ct_bit x s64, ct_bit x t64, fr_fl f4 (by decide), q3 x hx, decide_eq_true hx, Bool.true_and]
    have a20 : tq_ai z5 20 = tq_ai z3 20 := by rw [e5, rw_ai_fl, fr_ai f4 (by decide)]
    have a21 : tq_ai z5 21 = tq_ai z4 21 := by rw [e5, rw_ai_fl]
    have a22 : tq_ai z5 22 = tq_ai z4 22 := by rw [e5, rw_ai_fl]
    clear e5
    refine sq_turnPath hd q2 (by rw [a20]; exact q1) sS sf sk (by rw [a21, a22]; exact b4) hk t64 tS tk tf (by rw [a21]; exact tfr) tn (fun z6 m' f6 r1 r2 r3 r4 => ⟨rfl, ?_⟩)
    have keep := r4 Zd Zl q5 q6
    unfold wc_X9_pair_98
    intro v ev
    rw [i_1, i_add] at ev
    have ts : s ≠ t := fun e => by rw [e, tk] at sk; cases sk
    refine hB _ ⟨P', m', Zd, Zl, z6, by rw [ev], fr_t f5 (fr_m (by decide) f6), ⟨r1, r2, fun x hx => ?_, q4, q5, fun l hl => ?_, fun d h1 h2 h3 => ?_, fun d hd' h1 => ?_⟩, by omega⟩
    · rw [fr_fl f6 (by decide), al5 x hx]
      cases hs : S x
      · rfl
      · rw [Bool.true_and, Bool.true_and]
        have := r3 x hs
        by_cases u1 : x = s
        · have n1 : ¬ m' x = x := fun e => (this.mp e).2.2 u1
          rw [decide_eq_true u1, decide_eq_false n1]; simp
        · by_cases u2 : x = t
          · have n1 : ¬ m' x = x := fun e => (this.mp e).2.1 u2
            rw [decide_eq_true u2, decide_eq_false n1]; simp
          · rw [decide_eq_false u1, decide_eq_false u2]
            by_cases u3 : m x = x
            · rw [decide_eq_true u3, decide_eq_true (this.mpr ⟨u3, u2, u1⟩)]; rfl
            · rw [decide_eq_false u3, decide_eq_false (fun e => u3 (this.mp e).1)]; rfl
    · obtain ⟨x1, x2, x3, x4⟩ := q6 l hl
      rw [keep l hl]; exact ⟨x1, x2, x3, x4⟩
    · obtain ⟨u1, u2, u3⟩ := (r3 d h1).mp h3
      rcases q7 d h1 h2 u1 with e | e
      · exact Or.inl e
      · exact Or.inr (by rw [P'v d (hre d h1).1, if_neg u3]; exact e)
    · rw [P'v d hd'] at h1
      by_cases e2 : d = s
      · rw [if_pos e2] at h1; cases h1
      · rw [if_neg e2] at h1
        obtain ⟨x1, x2, x3, x4⟩ := q8 d hd' h1
        exact ⟨x1, x2, (r3 d x1).mpr ⟨x3, (fun e => by rw [e, tk] at x2; cases x2), e2⟩, x4⟩
/-- what the class has told of all cells -/
def PR (w : Nat) (r : Bool) (S : Nat → Bool) (m : Nat → Nat) (z : tq_S) : Prop := rs w r S m (ct (tq_fl z 1222)) (ct (tq_fl z 1223)) ∧ ∀ x, x < 64 → ct (tq_fl z 1221) x = (S x && decide (m x = x))
def FPs : List (Nat × Nat) := [(1, 1222), (1, 1223)]
theorem sq_spreadFree {m : Nat → Nat} {Zd Zl : Nat → Bool} (hd : jd w h r S) (hj : jc w h r S z) (hp : pin w r S m Zd Zl (fun _ => false) z) (kk : ∀ z', fr FPs z z' → PR w r S m z' → Q (.inl none) z') : wm_X9_spreadFree z Q := by
  have hre := hd.2.2.2.2.2
  obtain ⟨q1, q2, q3, q4, q5, q6, q7, q8⟩ := hp
  unfold wm_X9_spreadFree
  intro z1 e1 z2 e2
  have f2 : fr FPs z z2 := by rw [e2]; refine fr_sfl (by decide) ?_; rw [e1]; exact fr_sfl (by decide) fr_r
  have F2 : ∀ x, x < 64 → (ct (tq_fl z2 1222) x = true ↔ Fs w r S m 0 x) := by
    intro x hx
    rw [e2, rw_fl_fl, if_neg (by omega), e1, rw_fle, q3 x hx, Bool.and_eq_true, decide_eq_true_eq]
    exact Iff.rfl
  clear e1 e2
  unfold wc_X9_spreadFree_15
  refine lp_inv (fun n t => ∃ z', t = (nI n, z') ∧ fr FPs z z' ∧ (∀ x, x < 64 → (ct (tq_fl z' 1222) x = true ↔ Fs w r S m n x)) ∧ (n = 0 ∨ 1 + n ≤ fb_ct (ct (tq_fl z' 1222)) 64)) 64 ?_ ⟨z2, rfl, f2, F2, Or.inl rfl⟩
  rintro n t hn ⟨z3, rfl, f3, F3, c3⟩ B hB
  simp only
  have c64 := fb_ct_le (ct (tq_fl z3 1222)) 64
  unfold wb_X9_spreadFree_15
  rw [i_64, i_le (by omega) (by omega)]
  refine ⟨fun u => by omega, fun u => ?_⟩
  have hB := hB (by omega)
  have j3 := jc_f f3 (by decide) (by decide) (by decide) (by decide) hj
  have FS : ∀ x, x < 64 → ct (tq_fl z3 1222) x = true → S x = true := fun x hx h => Fs_S q2 n x ((F3 x hx).mp h)
  have x64 : ∀ (c : Int64) x, ct c x = true → x < 64 := fun c x h => Classical.byContradiction fun q => by rw [ct_big (by omega)] at h; cases h
  refine sq_beside hd j3 (fun x hx => hre x (FS x (x64 _ x hx) hx)) (fun v hv => ⟨_, rfl, fun z4 e4 M eM => ?_⟩)
  have B4 : ∀ x, x < 64 → (ct (tq_fl z4 1223) x = true ↔ S x = true ∧ ∃ f, ct (tq_fl z3 1222) f = true ∧ nb w r f x = true) := by
    intro x hx
    rw [e4, rw_fle, ct_and, j3.2.2.2, Bool.and_eq_true]
    constructor
    · rintro ⟨a, b⟩; exact ⟨b, (hv x hx (hre x b).2.1).mp a⟩
    · rintro ⟨a, b⟩; exact ⟨(hv x hx (hre x a).2.1).mpr b, a⟩
  have F4 : tq_fl z4 1222 = tq_fl z3 1222 := by rw [e4, rw_fl_fl, if_neg (by omega)]
  have f4 : fr FPs z z4 := by rw [e4]; exact fr_sfl (by decide) f3
  rw [F4] at eM
  clear e4
  have a20 : tq_ai z4 20 = tq_ai z 20 := fr_ai f4 (by decide)
  unfold wc_X9_spreadFree_52
  refine lp_inv (fun x t => ∃ M' : Int64, t = (M', nI x, z4) ∧ ∀ y, y < 64 → (ct M' y = true ↔ ct M y = true ∨ ∃ b, b < x ∧ ct (tq_fl z4 1223) b = true ∧ m b ≠ b ∧ m b = y)) 64 ?_ ⟨M, rfl, fun y hy => ⟨Or.inl, fun e => e.elim (fun e => e) (fun ⟨b, b1, _⟩ => by omega)⟩⟩
  rintro x t hx ⟨M', rfl, hM'⟩ B2 hB2
  simp only
  unfold wb_X9_spreadFree_52
  rw [i_64, i_le (by omega) (by omega)]
  refine ⟨fun u2 => ?_, fun u2 => ?_⟩
  · have : x = 64 := by omega
    subst this
    have FM : ∀ y, y < 64 → (ct M' y = true ↔ Fs w r S m (n + 1) y) := by
      intro y hy
      rw [hM' y hy, eM, F3 y hy]
      constructor
      · rintro (e | ⟨b, b1, b2, b3, b4⟩)
        · exact Or.inl e
        · obtain ⟨bS, f, g1, g2⟩ := (B4 b b1).mp b2
          exact Or.inr ⟨b, f, bS, (F3 f (x64 _ f g1)).mp g1, g2, b3, b4⟩
      · rintro (e | ⟨b, f, b1, b2, b3, b4, b5⟩)
        · exact Or.inl e
        · have bS := (hre b b1).1
          exact Or.inr ⟨b, bS, (B4 b bS).mpr ⟨b1, f, (F3 f (hre f (Fs_S q2 n f b2)).1).mpr b2, b3⟩, b4, b5⟩
    unfold wc_X9_spreadFree_101
    rw [F4]
    refine ⟨fun u3 z5 e5 v6 e6 => ?_, fun u3 => ?_⟩
    · rw [i_1, i_add] at e6
      have c5 : tq_fl z5 1222 = M' := by rw [e5, rw_fle]
      refine hB _ ⟨z5, by rw [e6], by rw [e5]; exact fr_sfl (by decide) f4, by rw [c5]; exact FM, Or.inr ?_⟩
      rw [c5]
      have grow : fb_ct (ct (tq_fl z3 1222)) 64 + 1 ≤ fb_ct (ct M') 64 := by
        refine ct_mono (fun y hy => ?_) (fun e => u3 e.symm)
        have y64 := x64 _ y hy
        exact (hM' y y64).mpr (Or.inl (by rw [eM]; exact hy))
      rcases c3 with c3 | c3
      · -- something was free at first
        have : 0 < fb_ct (ct (tq_fl z3 1222)) 64 := by
          refine Classical.byContradiction fun q => ?_
          have z0 : fb_ct (ct (tq_fl z3 1222)) 64 = 0 := by omega
          have all0 : ∀ y, y < 64 → ct M' y = false := by
            intro y hy
            cases e : ct M' y
            · rfl
            · exfalso
              have fs1 := (FM y hy).mp e
              rw [c3] at fs1 F3
              rcases fs1 with g | ⟨b, f, b1, b2, -⟩
              · have := (F3 y hy).mpr g
                rw [fb_ct_zero.mp z0 y hy] at this; cases this
              · have f64 := (hre f (Fs_S q2 0 f b2)).1
                have := (F3 f f64).mpr b2
                rw [fb_ct_zero.mp z0 f f64] at this; cases this
          have : fb_ct (ct M') 64 = 0 := fb_ct_zero.mpr all0
          omega
        omega
      · omega
    · refine kk z4 f4 ⟨⟨q2, ⟨Zd, Zl, ⟨q4, q5, fun l hl => ?_⟩, fun x h1 h2 h3 => (q7 x h1 h2 h3).elim (fun e => e) (fun e => (by cases e))⟩, ⟨n, fun x => ?_, fun x hx => ?_⟩, fun x => ?_⟩, fun x hx => by rw [fr_fl f4 (by decide)]; exact q3 x hx⟩
      · obtain ⟨y1, y2, y3, y4⟩ := q6 l hl
        have e : fm S m l = m l := if_pos ⟨y1, y2, y3⟩
        rw [e]
        exact ⟨(hre l y1).1, (hre _ (q2 l y1).1).1, y4⟩
      · rw [F4]
        constructor
        · intro e; exact (F3 x (x64 _ x e)).mp e
        · intro e; exact (F3 x (hre x (Fs_S q2 n x e)).1).mpr e
      · have xx := (hre x (Fs_S q2 (n + 1) x hx)).1
        have := (FM x xx).mpr hx
        rw [u3] at this
        exact (F3 x xx).mp this
      · constructor
        · intro e
          obtain ⟨a, f, b, c⟩ := (B4 x (x64 _ x e)).mp e
          exact ⟨a, f, by rw [F4]; exact b, c⟩
        · rintro ⟨a, f, b, c⟩
          rw [F4] at b
          exact (B4 x (hre x a).1).mpr ⟨a, f, b, c⟩
  · have x64' : x < 64 := by omega
    have go : ∀ M2 : Int64, (∀ y, y < 64 → (ct M2 y = true ↔ ct M y = true ∨ ∃ b, b < x + 1 ∧ ct (tq_fl z4 1223) b = true ∧ m b ≠ b ∧ m b = y)) → wc_X9_spreadFree_95 (fun b1 z => B (b1, z)) (fun b2 b4 z => B2 (b2, b4, z)) Q (nI n) M2 (nI x) z4 := by
      intro M2 hM2
      unfold wc_X9_spreadFree_95
      intro v9 e9
      rw [i_1, i_add] at e9
      exact hB2 (by omega) _ ⟨M2, by rw [e9], hM2⟩
    have same : ¬ (ct (tq_fl z4 1223) x = true ∧ m x ≠ x) → ∀ y, y < 64 → (ct M' y = true ↔ ct M y = true ∨ ∃ b, b < x + 1 ∧ ct (tq_fl z4 1223) b = true ∧ m b ≠ b ∧ m b = y) := by
      intro hno y hy
      rw [hM' y hy]
      constructor
      · rintro (e | ⟨b, b1, b2⟩)
        · exact Or.inl e
        · exact Or.inr ⟨b, by omega, b2⟩
      · rintro (e | ⟨b, b1, b2, b3, b4⟩)
        · exact Or.inl e
        · by_cases e : b = x
          · rw [e] at b2 b3; exact absurd ⟨b2, b3⟩ hno
          · exact Or.inr ⟨b, by omega, b2, b3, b4⟩
    rw [ct_tb x64', i_cl (by omega), a20, q1 x x64']
    refine ⟨fun u3 => go M' (same (fun e => by rw [u3] at e; cases e.1)), fun u3 => ⟨i_in (by omega) (by omega), ?_⟩⟩
    have u3 : ct (tq_fl z4 1223) x = true := by simpa using u3
    have xS := ((B4 x x64').mp u3).1
    have mxS := (q2 x xS).1
    have mx64 := (hre _ mxS).1
    by_cases u4 : m x = x
    · rw [if_neg (fun e => e.2 u4)]
      exact ⟨fun _ => go M' (same (fun e => e.2 u4)), fun e => absurd (show (-1 : Int32) < 0 by decide +kernel) e⟩
    · rw [if_pos ⟨xS, u4⟩]
      refine ⟨fun e => absurd e (i_n0 (by omega)), fun _ => ⟨i_in (by omega) (by omega), fun M2 eM2 => go M2 (fun y hy => ?_)⟩⟩
      rw [eM2, ct_or, ct_bit y mx64, Bool.or_eq_true, decide_eq_true_eq, hM' y hy]
      constructor
      · rintro ((e | ⟨b, b1, b2⟩) | e)
        · exact Or.inl e
        · exact Or.inr ⟨b, by omega, b2⟩
        · exact Or.inr ⟨x, by omega, u3, u4, e.symm⟩
      · rintro (e | ⟨b, b1, b2, b3, b4⟩)
        · exact Or.inl (Or.inl e)
        · by_cases e : b = x
          · rw [e] at b4; exact Or.inr b4.symm
          · exact Or.inl (Or.inr ⟨b, by omega, b2, b3, b4⟩)
def FP : List (Nat × Nat) := [(2, 20), (2, 21), (2, 22), (1, 1221), (1, 1222), (1, 1223), (0, 1220)]
theorem sq_refresh (hd : jd w h r S) (hj : jc w h r S z) (hc : tq_fi z 1220 = tq_fi z 68 → ∃ m, PR w r S m z) (kk : ∀ z' m, fr FP z z' → tq_fi z' 1220 = tq_fi z 68 → PR w r S m z' → Q (.inl none) z') : wm_X9_refresh z Q := by
  unfold wm_X9_refresh
  refine ⟨fun _ => ?_, fun q => ?_⟩
  · refine sq_pair hd hj (fun z1 m Zd Zl f1 p1 => ⟨rfl, ?_⟩)
    have j1 := jc_f f1 (by decide) (by decide) (by decide) (by decide) hj
    refine sq_spreadFree hd j1 p1 (fun z2 f2 p2 => ⟨rfl, fun z3 e3 => ?_⟩)
    have c68 : tq_fi z2 68 = tq_fi z 68 := by rw [fr_fi f2 (by decide), fr_fi f1 (by decide)]
    refine kk z3 m (by rw [e3]; exact fr_sfi (by decide) (fr_t (fr_m (by decide) f1) (fr_m (by decide) f2))) (by rw [e3, rw_fie, c68]) ?_
    rw [e3]; exact p2
  · obtain ⟨m, hm⟩ := hc q
    exact kk z m fr_r q hm
theorem roC_ct {m : Nat → Nat} {F B : Nat → Bool} (hd : jd w h r S) (hs : rs w r S m F B) : fb_ct (fun c => S c && decide (roC F B c = 102)) 64 = fb_ct F 64 ∧ fb_ct (fun c => S c && decide (roC F B c = 110)) 64 = fb_ct B 64 ∧ fb_ct (fun c => S c && decide (roC F B c = 45)) 64 + fb_ct F 64 + fb_ct B 64 = fb_ct S 64 := by
  obtain ⟨bp, fS, alF⟩ := rs_B hd hs
  have e1 : ∀ c, (S c && decide (roC F B c = 102)) = F c := by
    intro c
    unfold roC
    cases hf : F c
    · cases hb : B c
      · simp
      · simp
    · rw [fS c hf]; simp
  have e2 : ∀ c, (S c && decide (roC F B c = 110)) = B c := by
    intro c
    unfold roC
    cases hb : B c
    · cases hf : F c
      · simp
      · simp
    · rw [(bp c hb).2.2.2, (bp c hb).1]; simp
  have e3 : ∀ c, ((S c && decide (roC F B c = 45)) || (F c || B c)) = S c := by
    intro c
    unfold roC
    cases hf : F c
    · cases hb : B c
      · simp
      · rw [(bp c hb).1]; simp
    · rw [fS c hf]; simp
  refine ⟨fb_ct_cong (fun c _ => e1 c), fb_ct_cong (fun c _ => e2 c), ?_⟩
  have : fb_ct (fun c => (S c && decide (roC F B c = 45)) || (F c || B c)) 64 = fb_ct S 64 := fb_ct_cong (fun c _ => e3 c)
  rw [fb_ct_or (fun c _ => ?_), fb_ct_or (fun c _ => ?_)] at this
  · omega
  · intro e
    rw [(bp c e.2).2.2.2] at e; cases e.1
  · unfold roC
    cases hf : F c
    · cases hb : B c
      · simp
      · simp
    · simp
theorem sc_free (hd : jd w h r S) (hj : jc w h r S z) (hc : tq_fi z 1220 = tq_fi z 68 → ∃ m, PR w r S m z) (k1 : ∀ z' m, fr FP z z' → tq_fi z' 1220 = tq_fi z 68 → PR w r S m z' → Q (.inl (some (.int (nI (fb_ct (fun x => S x && decide (m x = x)) 64))))) z') : wm_X11_free z Q := by
  unfold wm_X11_free
  refine sq_refresh hd hj hc (fun z1 m f1 e1 p1 => ⟨rfl, sp_bc ⟨_, rfl, ?_⟩⟩)
  have : fb_ct (ct (tq_fl z1 1221)) 64 = fb_ct (fun x => S x && decide (m x = x)) 64 := fb_ct_cong (fun x hx => p1.2 x hx)
  rw [this]
  exact k1 z1 m f1 e1 p1
theorem sc_roles {a : Int32} (hd : jd w h r S) (hj : jc w h r S z) (hc : tq_fi z 1220 = tq_fi z 68 → ∃ m, PR w r S m z) (k0 : ¬ a = 102 → ¬ a = 110 → ¬ a = 45 → Q (.inr 1) z) (k1 : ∀ n : Nat, (n = 102 ∨ n = 110 ∨ n = 45) → a = nI n → ∀ z' m, fr FP z z' → tq_fi z' 1220 = tq_fi z 68 → PR w r S m z' → Q (.inl (some (.int (nI (fb_ct (fun c => S c && decide (roC (ct (tq_fl z' 1222)) (ct (tq_fl z' 1223)) c = n)) 64))))) z') : wm_X11_roles a z Q := by
  have go : ∀ n : Nat, (n = 102 ∨ n = 110 ∨ n = 45) → a = nI n → wc_X11_roles_29 Q a z := by
    intro n hn e
    have K := k1 n hn e
    unfold wc_X11_roles_29
    refine sq_refresh hd hj hc (fun z1 m f1 e1 p1 => ⟨rfl, sp_bc ⟨_, rfl, sp_bc ⟨_, rfl, ?_⟩⟩⟩)
    have K := K z1 m f1 e1 p1
    obtain ⟨r1, r2, r3⟩ := roC_ct hd p1.1
    have s64 := fb_ct_le S 64
    rw [e]
    dsimp only
    have j1 := jc_f f1 (by decide) (by decide) (by decide) (by decide) hj
    rcases hn with rfl | rfl | rfl
    · rw [r1] at K
      exact ⟨fun u => absurd rfl u, fun _ => K⟩
    · rw [r2] at K
      exact ⟨fun _ => ⟨fun u => absurd rfl u, fun _ => K⟩, fun u => absurd u (by decide +kernel)⟩
    · refine ⟨fun _ => ⟨fun _ => sq_size j1 ⟨_, rfl, ?_⟩, fun u => absurd u (by decide +kernel)⟩, fun u => absurd u (by decide +kernel)⟩
      dsimp only
      rw [pk_sub (by omega), pk_sub (by omega)]
      have e3 : fb_ct S 64 - fb_ct (ct (tq_fl z1 1222)) 64 - fb_ct (ct (tq_fl z1 1223)) 64 = fb_ct (fun c => S c && decide (roC (ct (tq_fl z1 1222)) (ct (tq_fl z1 1223)) c = 45)) 64 := by omega
      rw [e3]; exact K
  unfold wm_X11_roles
  exact ⟨fun q => go 102 (Or.inl rfl) q, fun q => ⟨fun q2 => go 110 (Or.inr (Or.inl rfl)) q2, fun q2 => ⟨fun q3 => go 45 (Or.inr (Or.inr rfl)) q3, fun q3 => k0 q q2 q3⟩⟩⟩
end CROLES
