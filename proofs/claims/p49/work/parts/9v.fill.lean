section FSG
variable {w h : Nat} {r : Bool} {S : Nat → Bool} {z : tq_S} {Q : tq_O → tq_S → Prop}
theorem if_cg {α : Type} {a b : Prop} [Decidable a] [Decidable b] (h : a ↔ b) (x y : α) : (if a then x else y) = if b then x else y := by
  by_cases q : a
  · rw [if_pos q, if_pos (h.mp q)]
  · rw [if_neg q, if_neg (fun e => q (h.mpr e))]
theorem i_pmn {a : Nat} (h : 1 ≤ a) : nI a - 1 = nI (a - 1) := by rw [Int32.sub_eq_add_neg]; exact i_m1 h
theorem ho_mx {Y : Int32} : ho w h S (nI 0 - 1) Y = false := by
  unfold ho
  rw [decide_eq_false (show ¬ 0 ≤ (nI 0 - 1 : Int32).toInt by decide +kernel)]; rfl
theorem ho_my {X : Int32} : ho w h S X (nI 0 - 1) = false := by
  unfold ho
  rw [decide_eq_false (show ¬ 0 ≤ (nI 0 - 1 : Int32).toInt by decide +kernel)]
  simp
/-- the matrix holds the rows of the cells before c -/
def FSc (n p w : Nat) (S : Nat → Bool) (c : Nat) (z : tq_S) : Prop := ∀ i q, i < n → q < n → tq_al z 17 (32 * i + q) = lN (if kth (DKs S) i < c then km p w (kth (DKs S) i) (kth (LTs S) q) else 0)
theorem ct_gap (hd : jd w h r S) {y : Nat} : fb_ct (DKs S) (8 * y + w) = fb_ct (DKs S) (8 * (y + 1)) := by
  have hw8 := hd.2.1
  have hw1 := hd.1
  obtain ⟨d, hd2⟩ : ∃ d, 8 = w + d := ⟨8 - w, by omega⟩
  rw [show 8 * (y + 1) = 8 * y + w + d by omega, fb_ct_split _ (8 * y + w) d]
  have : fb_ct (fun k => DKs S (8 * y + w + k)) d = 0 := fb_ct_zero.mpr (fun k hk => by
    unfold DKs
    cases e : S (8 * y + w + k)
    · rfl
    · have := hd.2.2.2.2.2 _ e
      omega)
  rw [this]; rfl
theorem km_four {n c x y p : Nat} {q : Nat} (hd : jd w h r S) (h2 : n = fb_ct (LTs S) 64) (hq : q < n) (hc : c = 8 * y + x) (hx : x < w) (hy : y < h) : (if ho w h S (nI x) (nI y + 1) = true ∧ kth (LTs S) q = c + 8 then lN (if x % 2 = 0 then 1 else p - 1) else if ho w h S (nI x) (nI y - 1) = true ∧ kth (LTs S) q = c - 8 then lN (if x % 2 = 0 then 1 else p - 1) else if ho w h S (nI x + 1) (nI y) = true ∧ kth (LTs S) q = c + 1 then lN 1 else if ho w h S (nI x - 1) (nI y) = true ∧ kth (LTs S) q = c - 1 then lN 1 else lN 0) = lN (km p w c (kth (LTs S) q)) := by
  have hw8 := hd.2.1
  have hh8 := hd.2.2.2.1
  obtain ⟨k1, k2, k3⟩ := kth_ok (p := LTs S) (k := q) (by omega)
  generalize kth (LTs S) q = L at k1 k2 k3 ⊢
  have hL : S L = true := by
    unfold LTs at k2
    rw [Bool.and_eq_true] at k2
    exact k2.1
  have rL := hd.2.2.2.2.2 L hL
  have i4 : (ho w h S (nI x) (nI y + 1) = true ∧ L = c + 8) ↔ L = c + 8 := by
    refine ⟨fun u => u.2, fun e => ⟨?_, e⟩⟩
    rw [i_1, i_add, ho_n (by omega) (by omega), decide_eq_true hx, decide_eq_true (by omega), show 8 * (y + 1) + x = L by omega, hL]; rfl
  have i3 : (ho w h S (nI x) (nI y - 1) = true ∧ L = c - 8) ↔ L + 8 = c := by
    by_cases y0 : y = 0
    · rw [y0, ho_my]
      exact ⟨fun u => (by cases u.1), fun e => by omega⟩
    · rw [i_pmn (by omega), ho_n (by omega) (by omega), decide_eq_true hx, decide_eq_true (by omega)]
      refine ⟨fun u => by omega, fun e => ⟨?_, by omega⟩⟩
      rw [show 8 * (y - 1) + x = L by omega, hL]; rfl
  have i2 : (ho w h S (nI x + 1) (nI y) = true ∧ L = c + 1) ↔ (L = c + 1 ∧ x + 1 < w) := by
    rw [i_1, i_add, ho_n (by omega) (by omega), decide_eq_true hy]
    refine ⟨fun u => ⟨u.2, ?_⟩, fun e => ⟨?_, e.1⟩⟩
    · have := u.1
      simp only [Bool.and_eq_true, decide_eq_true_eq] at this
      exact this.1.1
    · rw [decide_eq_true e.2, show 8 * y + (x + 1) = L by omega, hL]; rfl
  have i1 : (ho w h S (nI x - 1) (nI y) = true ∧ L = c - 1) ↔ (L + 1 = c ∧ 1 ≤ x) := by
    by_cases x0 : x = 0
    · rw [x0, ho_mx]
      exact ⟨fun u => (by cases u.1), fun e => by omega⟩
    · rw [i_pmn (by omega), ho_n (by omega) (by omega), decide_eq_true (by omega), decide_eq_true hy]
      refine ⟨fun u => by omega, fun e => ⟨?_, by omega⟩⟩
      rw [show 8 * y + (x - 1) = L by omega, hL]; rfl
  rw [if_cg i4, if_cg i3, if_cg i2, if_cg i1]
  have nbt : nb w false c L = true ↔ (L = c + 8 ∨ L + 8 = c ∨ (L = c + 1 ∧ x + 1 < w) ∨ (L + 1 = c ∧ 1 ≤ x)) := by
    unfold nb
    simp only [Bool.or_eq_true, Bool.and_eq_true, decide_eq_true_eq, Bool.false_and, Bool.false_eq_true, or_false, false_and]
    omega
  unfold km
  have ev : (if c % 2 = 0 then 1 else p - 1) = if x % 2 = 0 then 1 else p - 1 := by
    by_cases e : x % 2 = 0
    · rw [if_pos e, if_pos (by omega)]
    · rw [if_neg e, if_neg (by omega)]
  rw [ev]
  generalize (if x % 2 = 0 then 1 else p - 1) = U
  by_cases c1 : L = c + 8
  · rw [if_pos c1, if_pos (nbt.mpr (Or.inl c1)), if_pos (Or.inl c1)]
  · rw [if_neg c1]
    by_cases c2 : L + 8 = c
    · rw [if_pos c2, if_pos (nbt.mpr (Or.inr (Or.inl c2))), if_pos (Or.inr c2.symm)]
    · rw [if_neg c2]
      have no : ¬ (L = c + 8 ∨ c = L + 8) := fun u => u.elim c1 (fun e => c2 e.symm)
      by_cases c3 : L = c + 1 ∧ x + 1 < w
      · rw [if_pos c3, if_pos (nbt.mpr (Or.inr (Or.inr (Or.inl c3)))), if_neg no]
      · rw [if_neg c3]
        by_cases c4 : L + 1 = c ∧ 1 ≤ x
        · rw [if_pos c4, if_pos (nbt.mpr (Or.inr (Or.inr (Or.inr c4)))), if_neg no]
        · rw [if_neg c4, if_neg (fun u => by
            rcases nbt.mp u with u | u | u | u
            · exact c1 u
            · exact c2 u
            · exact c3 u
            · exact c4 u)]
theorem sq_fillSigns {n p : Nat} {dark light : Int64} (hd : jd w h r S) (hj : jc w h r S z) (h1 : n = fb_ct (DKs S) 64) (h2 : n = fb_ct (LTs S) 64) (hdk : ∀ j, j < 64 → ct dark j = DKs S j) (hl : ∀ j, j < 64 → ct light j = LTs S j) (hp1 : 1 < p) (hp : p ≤ 2147483647) (k : ∀ z', fr [(3, 17)] z z' → mt n (fun i j => km p w (kth (DKs S) i) (kth (LTs S) j)) z' → Q (.inl none) z') : wm_X3_fillSigns dark light (lN p) z Q := by
  have hw1 := hd.1
  have hw8 := hd.2.1
  have hh8 := hd.2.2.2.1
  have n32 : n ≤ 32 := by rw [h1]; exact two_ct (by omega)
  have inS : ∀ i, i < n → S (kth (DKs S) i) = true ∧ dk (kth (DKs S) i) = true := fun i hi => by
    have := (kth_ok (p := DKs S) (k := i) (by omega)).2.1
    unfold DKs at this
    rw [Bool.and_eq_true] at this
    exact this
  unfold wm_X3_fillSigns
  refine fw_J7_fill_d0a16_r1 ⟨rfl, ?_⟩
  obtain ⟨z1, e1⟩ : ∃ z1, z1 = fl_l z 17 0 1024 0 := ⟨_, rfl⟩
  rw [← e1]
  have f1 : fr [(3, 17)] z z1 := by rw [e1]; unfold fl_l; exact fr_sal (by decide) fr_r
  have a1 : FSc n p w S (8 * 0) z1 := fun i q hi hq => by
    rw [e1]
    unfold fl_l
    rw [rw_ale, if_pos (by omega), if_neg (by omega)]; rfl
  unfold wc_X3_fillSigns_14
  refine lp_inv (fun y st => ∃ z2, st = (nI (fb_ct (DKs S) (8 * y)), nI y, z2) ∧ fr [(3, 17)] z z2 ∧ FSc n p w S (8 * y) z2) h ?_ ⟨z1, rfl, f1, a1⟩
  rintro y st hy ⟨z2, rfl, f2, a2⟩ B hB
  simp only
  unfold wb_X3_fillSigns_14
  have j2 := jc_f f2 (by decide) (by decide) (by decide) (by decide) hj
  rw [j2.2.1, i_le (by omega) (by omega)]
  refine ⟨fun e => ?_, fun e => ?_⟩
  · have : y = h := by omega
    subst this
    refine k z2 f2 (fun i q hi hq => ?_)
    have := hd.2.2.2.2.2 _ (inS i hi).1
    rw [a2 i q hi hq, if_pos (by omega)]
  have hy1 : y < h := by omega
  unfold wc_X3_fillSigns_26
  refine lp_inv (fun x st => ∃ z3, st = (nI (fb_ct (DKs S) (8 * y + x)), nI x, z3) ∧ fr [(3, 17)] z z3 ∧ FSc n p w S (8 * y + x) z3) w ?_ ⟨z2, rfl, f2, a2⟩
  rintro x st hx ⟨z3, rfl, f3, a3⟩ B2 hB2
  simp only
  unfold wb_X3_fillSigns_26
  have j3 := jc_f f3 (by decide) (by decide) (by decide) (by decide) hj
  rw [j3.1, i_le (by omega) (by omega)]
  refine ⟨fun e2 => ?_, fun e2 => ?_⟩
  · have : x = w := by omega
    subst this
    unfold wc_X3_fillSigns_148
    intro v ev
    rw [i_1, i_add] at ev
    subst ev
    refine hB hy1 _ ⟨z3, by rw [ct_gap hd], f3, fun i q hi hq => ?_⟩
    have := hd.2.2.2.2.2 _ (inS i hi).1
    rw [a3 i q hi hq]
    by_cases c : kth (DKs S) i < 8 * y + x
    · rw [if_pos c, if_pos (by omega)]
    · rw [if_neg c, if_neg (by omega)]
  have hx1 : x < w := by omega
  obtain ⟨c, hc⟩ : ∃ c, c = 8 * y + x := ⟨_, rfl⟩
  have c64 : c < 64 := by omega
  have nxt : ∀ z4 row, fr [(3, 17)] z z4 → row = fb_ct (DKs S) (8 * y + (x + 1)) → FSc n p w S (8 * y + (x + 1)) z4 → wc_X3_fillSigns_142 (fun b8 b9 z => B (b8, b9, z)) (fun b8 b10 z => B2 (b8, b10, z)) Q dark light (lN p) (nI row) (nI y) (nI x) z4 := by
    intro z4 row f4 hr a4
    unfold wc_X3_fillSigns_142
    intro v ev
    rw [i_1, i_add] at ev
    subst ev
    exact hB2 (by omega) _ ⟨z4, by rw [hr], f4, a4⟩
  refine sq_bit ⟨_, rfl, ?_⟩
  dsimp only
  rw [ct_tb (by omega), hdk _ (by omega), ← hc]
  refine ⟨fun e3 => nxt z3 _ f3 ?_ ?_, fun e3 => ?_⟩
  · rw [show 8 * y + (x + 1) = c + 1 by omega, fb_ct_succ, e3]; rfl
  · intro i q hi hq
    have d := (inS i hi)
    have ne : kth (DKs S) i ≠ c := fun e => by
      have : DKs S c = true := by unfold DKs; rw [← e, d.1, d.2]; rfl
      rw [this] at e3; cases e3
    rw [a3 i q hi hq]
    by_cases u : kth (DKs S) i < 8 * y + x
    · rw [if_pos u, if_pos (by omega)]
    · rw [if_neg u, if_neg (by omega)]
  have e3 : DKs S c = true := by simpa using e3
  have dkc : dk c = true := by
    unfold DKs at e3
    rw [Bool.and_eq_true] at e3
    exact e3.2
  have hρ := ct_in c64 e3
  obtain ⟨ρ, hρ2⟩ : ∃ ρ, ρ = fb_ct (DKs S) c := ⟨_, rfl⟩
  have kρ : kth (DKs S) ρ = c := by rw [hρ2]; exact kth_of c64 e3
  rw [← hρ2] at hρ ⊢
  rw [i_32, i_le (by omega) (by omega)]
  refine ⟨fun e4 => absurd e4 (by omega), fun _ => ?_⟩
  have lt : ∀ o, S o = true → nb w false c o = true → LTs S o = true := fun o ho hn => by
    have := nb_par hw8 hn
    unfold LTs
    rw [ho, this, dkc]; rfl
  have main : ∀ v, v = lN (if x % 2 = 0 then 1 else p - 1) → wc_X3_fillSigns_71 (fun b8 b9 z => B (b8, b9, z)) (fun b8 b10 z => B2 (b8, b10, z)) Q dark light (lN p) (nI ρ) (nI y) (nI x) v z3 := by
    intro v ev
    subst ev
    unfold wc_X3_fillSigns_71
    show wm_X3_setSign light (nI ρ) (nI x - 1) (nI y) (lN 1) z3 _
    refine sq_setSign (o := c - 1) (s := 1) hw8 hh8 j3 n32 h2 hl (by omega) (fun e => ?_) (fun z4 f4 b4 o4 => ⟨rfl, ?_⟩)
    · by_cases x0 : x = 0
      · rw [x0, ho_mx] at e; cases e
      · rw [i_pmn (by omega)] at e ⊢
        have := ho_S hw8 hh8 e (by omega) (by omega)
        rw [show 8 * y + (x - 1) = c - 1 by omega] at this
        refine ⟨x - 1, y, rfl, rfl, by omega, by omega, by omega, lt _ this ?_⟩
        have := nb_a1 (w := w) (a := c - 1) (by omega)
        rwa [show c - 1 + 1 = c by omega] at this
    have j4 := jc_f f4 (by decide) (by decide) (by decide) (by decide) j3
    show wm_X3_setSign light (nI ρ) (nI x + 1) (nI y) (lN 1) z4 _
    refine sq_setSign (o := c + 1) (s := 1) hw8 hh8 j4 n32 h2 hl (by omega) (fun e => ?_) (fun z5 f5 b5 o5 => ⟨rfl, ?_⟩)
    · rw [i_1, i_add] at e ⊢
      have := ho_S hw8 hh8 e (by omega) (by omega)
      rw [ho_n (by omega) (by omega)] at e
      simp only [Bool.and_eq_true, decide_eq_true_eq] at e
      rw [show 8 * y + (x + 1) = c + 1 by omega] at this
      exact ⟨x + 1, y, rfl, rfl, by omega, by omega, by omega, lt _ this (nb_right (by omega))⟩
    have j5 := jc_f f5 (by decide) (by decide) (by decide) (by decide) j4
    refine sq_setSign (o := c - 8) (s := if x % 2 = 0 then 1 else p - 1) hw8 hh8 j5 n32 h2 hl (by omega) (fun e => ?_) (fun z6 f6 b6 o6 => ⟨rfl, ?_⟩)
    · by_cases y0 : y = 0
      · rw [y0, ho_my] at e; cases e
      · rw [i_pmn (by omega)] at e ⊢
        have := ho_S hw8 hh8 e (by omega) (by omega)
        rw [show 8 * (y - 1) + x = c - 8 by omega] at this
        refine ⟨x, y - 1, rfl, rfl, by omega, by omega, by omega, lt _ this ?_⟩
        have := nb_s (nb_down (w := w) (r := false) (i := c - 8))
        rwa [show c - 8 + 8 = c by omega] at this
    have j6 := jc_f f6 (by decide) (by decide) (by decide) (by decide) j5
    refine sq_setSign (o := c + 8) (s := if x % 2 = 0 then 1 else p - 1) hw8 hh8 j6 n32 h2 hl (by omega) (fun e => ?_) (fun z7 f7 b7 o7 => ⟨rfl, ?_⟩)
    · rw [i_1, i_add] at e ⊢
      have := ho_S hw8 hh8 e (by omega) (by omega)
      rw [show 8 * (y + 1) + x = c + 8 by omega] at this
      rw [ho_n (by omega) (by omega)] at e
      simp only [Bool.and_eq_true, decide_eq_true_eq] at e
      exact ⟨x, y + 1, rfl, rfl, by omega, by omega, by omega, lt _ this nb_down⟩
    intro v ev
    rw [i_1, i_add] at ev
    subst ev
    refine nxt z7 _ (fr_t f3 (fr_t f4 (fr_t f5 (fr_t f6 f7)))) ?_ ?_
    · rw [show 8 * y + (x + 1) = c + 1 by omega, fb_ct_succ, e3, hρ2]; rfl
    · intro i q hi hq
      by_cases u : i = ρ
      · subst u
        rw [b7 q hq, b6 q hq, b5 q hq, b4 q hq, a3 i q hi hq, kρ, if_pos (show c < 8 * y + (x + 1) by omega), if_neg (show ¬ c < 8 * y + x by omega)]
        exact km_four hd h2 hq hc hx1 hy1
      · have ne : kth (DKs S) i ≠ c := fun e => u (by
          have := (kth_ok (p := DKs S) (k := i) (by omega)).2.2
          rw [← this, e, hρ2])
        rw [o7 i q hq u, o6 i q hq u, o5 i q hq u, o4 i q hq u, a3 i q hi hq]
        by_cases u2 : kth (DKs S) i < 8 * y + x
        · rw [if_pos u2, if_pos (by omega)]
        · rw [if_neg u2, if_neg (by omega)]
  have par := i_par (x := nI x) (n := (x : Int)) (i_ti (by omega)) (by omega) (by omega)
  have e5 : (nI x - nI x / 2 * 2 = 0) ↔ x % 2 = 0 := by rw [par]; omega
  rw [e5]
  refine ⟨fun q => main _ ?_, fun q => main _ ?_⟩
  · rw [if_neg q, show (1 : Int64) = lN 1 from rfl, l_sub (by omega)]
  · rw [if_pos q]; rfl
end FSG
