section SRT
variable {α : Type}
def insF (f : Nat → α) (q : Nat) (x : α) (p : Nat) : α := if p < q then f p else if p = q then x else f (p - 1)
theorem ins_sorted {lt : α → α → Prop} {f : Nat → α} {P q : Nat} {x : α} (hs : ∀ p p', p < p' → p' < P → lt (f p) (f p')) (hq : q ≤ P) (h1 : ∀ p, p < q → lt (f p) x) (h2 : ∀ p, q ≤ p → p < P → lt x (f p)) : ∀ p p', p < p' → p' < P + 1 → lt (insF f q x p) (insF f q x p') := by
  intro p p' hp hp'
  unfold insF
  by_cases a : p' < q
  · rw [if_pos a, if_pos (by omega)]; exact hs _ _ hp (by omega)
  · rw [if_neg a]
    by_cases b : p' = q
    · rw [if_pos b, if_pos (by omega)]; exact h1 _ (by omega)
    · rw [if_neg b]
      by_cases c : p < q
      · rw [if_pos c]; exact hs _ _ (by omega) (by omega)
      · rw [if_neg c]
        by_cases d : p = q
        · rw [if_pos d]; exact h2 _ (by omega) (by omega)
        · rw [if_neg d]; exact hs _ _ (by omega) (by omega)
theorem ins_mem {f : Nat → α} {P q : Nat} {x : α} (hq : q ≤ P) (y : α) : (∃ p, p < P + 1 ∧ insF f q x p = y) ↔ y = x ∨ ∃ p, p < P ∧ f p = y := by
  constructor
  · rintro ⟨p, hp, e⟩
    unfold insF at e
    by_cases a : p < q
    · rw [if_pos a] at e; exact Or.inr ⟨p, by omega, e⟩
    · rw [if_neg a] at e
      by_cases b : p = q
      · rw [if_pos b] at e; exact Or.inl e.symm
      · rw [if_neg b] at e; exact Or.inr ⟨p - 1, by omega, e⟩
  · rintro (e | ⟨p, hp, e⟩)
    · exact ⟨q, by omega, by unfold insF; rw [if_neg (Nat.lt_irrefl _), if_pos rfl, e]⟩
    · by_cases a : p < q
      · exact ⟨p, by omega, by unfold insF; rw [if_pos a]; exact e⟩
      · exact ⟨p + 1, by omega, by unfold insF; rw [if_neg (by omega), if_neg (by omega), Nat.add_sub_cancel]; exact e⟩
end SRT
section AHD
/-- the first one in which two sets are unlike is in the one -/
def ahd (m m' : Nat) : Prop := ∃ b, m.testBit b = true ∧ m'.testBit b = false ∧ ∀ j, j < b → m.testBit j = m'.testBit j
theorem ahd_t {a b c : Nat} (h1 : ahd a b) (h2 : ahd b c) : ahd a c := by
  obtain ⟨i, i1, i2, i3⟩ := h1
  obtain ⟨j, j1, j2, j3⟩ := h2
  rcases Nat.lt_trichotomy i j with u | u | u
  · exact ⟨i, i1, by rw [← j3 i u]; exact i2, fun k hk => by rw [i3 k hk, j3 k (by omega)]⟩
  · subst u; rw [j1] at i2; cases i2
  · exact ⟨j, by rw [i3 j u]; exact j1, j2, fun k hk => by rw [i3 k (by omega), j3 k hk]⟩
theorem ahd_i (a : Nat) : ¬ ahd a a := fun ⟨b, h1, h2, _⟩ => by rw [h1] at h2; cases h2
theorem ahd_or {a b : Nat} (h : a ≠ b) (h2 : ¬ ahd a b) : ahd b a := by
  have ex : ∃ i, (a.testBit i != b.testBit i) = true := by
    refine Classical.byContradiction fun hn => h (Nat.eq_of_testBit_eq fun i => ?_)
    cases e : (a.testBit i != b.testBit i)
    · simpa using e
    · exact absurd ⟨i, e⟩ hn
  obtain ⟨i, hi⟩ := ex
  obtain ⟨k, -, h3, h4⟩ := ct_first (f := fun i => a.testBit i != b.testBit i) i hi
  have same : ∀ j, j < k → a.testBit j = b.testBit j := fun j hj => by simpa using h4 j hj
  have h3 : (a.testBit k != b.testBit k) = true := h3
  cases ea : a.testBit k <;> cases eb : b.testBit k <;> rw [ea, eb] at h3
  · cases h3
  · exact ⟨k, eb, ea, fun j hj => (same j hj).symm⟩
  · exact absurd ⟨k, ea, eb, same⟩ h2
  · cases h3
/-- a place: its first cell, its kind, its cells, its motions -/
def plc := Nat × Nat × Nat × Nat
def plt (a b : plc) : Prop := a.1 < b.1 ∨ (a.1 = b.1 ∧ (a.2.1 < b.2.1 ∨ (a.2.1 = b.2.1 ∧ ahd a.2.2.1 b.2.2.1)))
end AHD
section INS
variable {z : tq_S} {Q : tq_O → tq_S → Prop}
/-- a place as the class writes it -/
def pcE (x : plc) : Nat := 2 ^ 32 * x.2.1 + 2 ^ 24 * x.2.2.2 + x.2.2.1
def pcb (x : plc) : Prop := x.1 < 24 ∧ x.2.1 < 6 ∧ x.2.2.1 < 2 ^ 24 ∧ x.2.2.2 < 2 ^ 8
theorem pcE_lt {x : plc} (h : pcb x) : pcE x < 2 ^ 35 := by
  obtain ⟨h0, h1, h2, h3⟩ := h
  unfold pcE
  omega
theorem pcE_c {x : plc} (h : pcb x) {i : Nat} (hi : i < 24) : ct (lN (pcE x)) i = x.2.2.1.testBit i := by
  obtain ⟨h0, h1, h2, h3⟩ := h
  rw [ct_lN, decide_eq_true (by omega), Bool.true_and]
  unfold pcE
  rw [show 2 ^ 32 * x.2.1 + 2 ^ 24 * x.2.2.2 + x.2.2.1 = 2 ^ 24 * (2 ^ 8 * x.2.1 + x.2.2.2) + x.2.2.1 by omega, Nat.testBit_two_pow_mul_add _ h2, if_pos hi]
theorem cells_k : ∀ i : Fin 64, ct (16777215 : Int64) i.val = decide (i.val < 24) := by decide +kernel
theorem sq_cAhead {x y : plc} (hx : pcb x) (hy : pcb y) (k0 : ¬ ahd x.2.2.1 y.2.2.1 → Q (.inl (some (.int 0))) z) (k1 : ahd x.2.2.1 y.2.2.1 → Q (.inl (some (.int 1))) z) : wm_X4_isAhead (lN (pcE x)) (lN (pcE y)) z Q := by
  have v1b : ∀ i, ct ((lN (pcE x) ^^^ lN (pcE y)) &&& (16777215 : Int64)) i = (decide (i < 24) && (x.2.2.1.testBit i ^^ y.2.2.1.testBit i)) := fun i => by
    by_cases i64 : i < 64
    · rw [ct_and, ct_xor, cells_k ⟨i, i64⟩]
      by_cases q : i < 24
      · rw [pcE_c hx q, pcE_c hy q, decide_eq_true q, Bool.and_true, Bool.true_and]
      · rw [decide_eq_false q, Bool.and_false, Bool.false_and]
    · rw [ct_big (by omega), decide_eq_false (by omega), Bool.false_and]
  have out : ∀ {m : Nat}, m < 2 ^ 24 → ∀ b, m.testBit b = true → b < 24 := fun hm b hb => by
    refine Nat.lt_of_not_le fun u => ?_
    rw [Nat.testBit_lt_two_pow (Nat.lt_of_lt_of_le hm (Nat.pow_le_pow_right (by decide) u))] at hb
    cases hb
  have key : (∃ i, i < 64 ∧ ct ((lN (pcE x) &&& ((lN (pcE x) ^^^ lN (pcE y)) &&& (16777215 : Int64))) &&& (-((lN (pcE x) ^^^ lN (pcE y)) &&& (16777215 : Int64)))) i = true) ↔ ahd x.2.2.1 y.2.2.1 := by
    have bit : ∀ i, ct ((lN (pcE x) &&& ((lN (pcE x) ^^^ lN (pcE y)) &&& (16777215 : Int64))) &&& (-((lN (pcE x) ^^^ lN (pcE y)) &&& (16777215 : Int64)))) i = (ct (lN (pcE x)) i && (ct ((lN (pcE x) ^^^ lN (pcE y)) &&& (16777215 : Int64)) i && decide (∀ j, j < i → ct ((lN (pcE x) ^^^ lN (pcE y)) &&& (16777215 : Int64)) j = false))) := fun i => by
      rw [← ct_low]
      generalize ((lN (pcE x) ^^^ lN (pcE y)) &&& (16777215 : Int64)) = V
      rw [ct_and (lN (pcE x) &&& V) (-V), ct_and (lN (pcE x)) V, ct_and V (-V), Bool.and_assoc]
    constructor
    · rintro ⟨i, i64, e⟩
      rw [bit, v1b] at e
      simp only [Bool.and_eq_true, decide_eq_true_eq] at e
      obtain ⟨e1, ⟨e2, e3⟩, e4⟩ := e
      rw [pcE_c hx e2] at e1
      refine ⟨i, e1, ?_, fun j hj => ?_⟩
      · rw [e1] at e3
        cases h : y.2.2.1.testBit i
        · rfl
        · rw [h] at e3; cases e3
      · have := e4 j hj
        rw [v1b, decide_eq_true (by omega), Bool.true_and] at this
        cases a : x.2.2.1.testBit j <;> cases b : y.2.2.1.testBit j <;> rw [a, b] at this
        · cases this
        · cases this
    · rintro ⟨b, h1, h2, h3⟩
      have b24 := out hx.2.2.1 b h1
      refine ⟨b, by omega, ?_⟩
      rw [bit, v1b, pcE_c hx b24, h1, h2, decide_eq_true b24]
      refine decide_eq_true fun j hj => ?_
      rw [v1b, h3 j hj]
      cases y.2.2.1.testBit j <;> simp
  unfold wm_X4_isAhead
  intro v e
  subst e
  refine ⟨fun q => k0 fun u => ?_, fun q => k1 (key.mp (ct_ne.mp q))⟩
  obtain ⟨i, i1, i2⟩ := key.mpr u
  rw [q, ct_0] at i2; cases i2
/-- the class's row of places -/
def prow (P : Nat) (f : Nat → plc) (z : tq_S) : Prop := tq_fi z 1805 = nI P ∧ (∀ p, p < P → tq_al z 29 p = lN (pcE (f p))) ∧ (∀ p, p < P → pcb (f p)) ∧ ∀ p p', p < p' → p' < P → plt (f p) (f p')
theorem sq_insert {b P : Nat} {f : Nat → plc} {x : plc} (hr : prow P f z) (hP : P < 1152) (hb : b ≤ P) (hx : pcb x) (hlow : ∀ p, p < b → plt (f p) x) (hseg : ∀ p, b ≤ p → p < P → (f p).1 = x.1 ∧ (f p).2.1 = x.2.1) (k0 : (∃ p, b ≤ p ∧ p < P ∧ (f p).2.2.1 = x.2.2.1) → Q (.inl none) z) (k1 : (¬ ∃ p, b ≤ p ∧ p < P ∧ (f p).2.2.1 = x.2.2.1) → ∀ z' q, fr [(3, 29), (0, 1805)] z z' → b ≤ q → q ≤ P → prow (P + 1) (insF f q x) z' → Q (.inl none) z') : wm_X4_insert (nI b) (lN (pcE x)) z Q := by
  obtain ⟨h1, h2, h3, h4⟩ := hr
  have sameC : ∀ p, p < P → (((tq_al z 29 p ^^^ lN (pcE x)) &&& (16777215 : Int64)) = 0 ↔ (f p).2.2.1 = x.2.2.1) := fun p hp => by
    rw [h2 p hp]
    have hp3 := h3 p hp
    constructor
    · intro e
      refine Nat.eq_of_testBit_eq fun i => ?_
      by_cases q : i < 24
      · have := ct_n0.mp e i (by omega)
        rw [ct_and, ct_xor, cells_k ⟨i, by omega⟩, decide_eq_true q, Bool.and_true, pcE_c hp3 q, pcE_c hx q] at this
        cases a : (f p).2.2.1.testBit i <;> cases c : x.2.2.1.testBit i <;> rw [a, c] at this
        all_goals exact absurd this (by decide)
      · have l := Nat.pow_le_pow_right (n := 2) (by decide) (show 24 ≤ i by omega)
        have m1 := hp3.2.2.1
        have m2 := hx.2.2.1
        rw [Nat.testBit_lt_two_pow (by omega), Nat.testBit_lt_two_pow (by omega)]
    · intro e
      refine ct_n0.mpr fun i hi => ?_
      rw [ct_and, ct_xor, cells_k ⟨i, hi⟩]
      by_cases q : i < 24
      · rw [pcE_c hp3 q, pcE_c hx q, e, Bool.xor_self, Bool.false_and]
      · rw [decide_eq_false q, Bool.and_false]
  unfold wm_X4_insert
  rw [h1, show (1152 : Int32) = nI 1152 from rfl, i_lt (by omega) (by omega)]
  refine ⟨fun _ => ?_, fun q => absurd hP q⟩
  unfold wc_X4_insert_14
  refine lp_inv (fun d st => st = (nI (b + d), z) ∧ ∀ p, b ≤ p → p < b + d → (f p).2.2.1 ≠ x.2.2.1) (P - b) ?_ ⟨rfl, fun p a c => absurd c (by omega)⟩
  rintro d st hdP ⟨rfl, hno⟩ B hB
  simp only
  unfold wb_X4_insert_14
  rw [h1, i_le (by omega) (by omega)]
  refine ⟨fun q => ?_, fun q => ?_⟩
  rotate_left
  · rw [i_cl (by omega), sameC _ (by omega)]
    refine ⟨i_in (by omega) (by omega), fun u v e => ?_, fun u => k0 ⟨b + d, by omega, by omega, u⟩⟩
    rw [i_1, i_add] at e
    subst e
    refine hB (by omega) _ ⟨rfl, fun p a c => ?_⟩
    by_cases v2 : p = b + d
    · rw [v2]; exact u
    · exact hno p a (by omega)
  have hd2 : b + d = P := by omega
  rw [hd2] at hno
  have nodup : ¬ ∃ p, b ≤ p ∧ p < P ∧ (f p).2.2.1 = x.2.2.1 := fun ⟨p, p1, p2, p3⟩ => hno p p1 p2 p3
  have k1 := k1 nodup
  clear hB B
  unfold wc_X4_insert_48
  intro v1 e1 v2 e2
  rw [h1] at e1 e2
  subst e1
  subst e2
  unfold wc_X4_insert_60
  refine lp_inv (fun d st => ∃ z', st = (nI (P - d), nI (P - d), z') ∧ fr [(3, 29), (0, 1805)] z z' ∧ tq_fi z' 1805 = nI P ∧ (∀ p, p < P + 1 → tq_al z' 29 p = if P - d < p then lN (pcE (f (p - 1))) else if p < P then lN (pcE (f p)) else tq_al z 29 p) ∧ ∀ p, P - d ≤ p → p < P → ahd x.2.2.1 (f p).2.2.1) (P - b) ?_ ⟨z, rfl, fr_r, h1, fun p hp => ?_, fun p a c => absurd c (by omega)⟩
  rotate_left
  · rw [if_neg (by omega)]
    by_cases u : p < P
    · rw [if_pos u]; exact h2 p u
    · rw [if_neg u]
  rintro d st hdP ⟨z1, rfl, f1, g1, a1, o1⟩ B hB
  simp only
  have fin : (b = P - d ∨ ¬ ahd x.2.2.1 (f (P - d - 1)).2.2.1) → wc_X4_insert_110 Q (lN (pcE x)) (nI (P - d)) z1 := by
    intro hstop
    unfold wc_X4_insert_110
    refine ⟨i_in (by omega) (by omega), fun z2 e2 z3 e3 => ?_⟩
    rw [i_cl (by omega)] at e2
    have a3 : ∀ p, tq_al z3 29 p = if p = P - d then lN (pcE x) else tq_al z1 29 p := fun p => by
      rw [e3]
      show tq_al z2 29 p = _
      rw [e2, rw_ale, rw_updL]
    have g3 : tq_fi z3 1805 = nI (P + 1) := by
      rw [e3]
      show tq_fi z2 1805 + 1 = _
      rw [e2]
      show tq_fi z1 1805 + 1 = _
      rw [g1, i_1, i_add]
    have up1 : ∀ p, p < P - d → plt (f p) x := fun p hp => by
      by_cases pb : p < b
      · exact hlow p pb
      · have sp := hseg p (by omega) (by omega)
        refine Or.inr ⟨sp.1, Or.inr ⟨sp.2, ?_⟩⟩
        have last : ahd (f (P - d - 1)).2.2.1 x.2.2.1 := by
          rcases hstop with e | e
          · omega
          · refine ahd_or (fun e2 => ?_) e
            exact hno (P - d - 1) (by omega) (by omega) e2.symm
        by_cases pe : p = P - d - 1
        · rw [pe]; exact last
        · have l := h4 p (P - d - 1) (by omega) (by omega)
          have sp2 := hseg (P - d - 1) (by omega) (by omega)
          rcases l with l | ⟨_, l | ⟨_, l⟩⟩
          · rw [sp.1, sp2.1] at l; exact absurd l (Nat.lt_irrefl _)
          · rw [sp.2, sp2.2] at l; exact absurd l (Nat.lt_irrefl _)
          · exact ahd_t l last
    refine k1 z3 (P - d) ?_ (by omega) (by omega) ⟨g3, fun p hp => ?_, fun p hp => ?_, ?_⟩
    · rw [e3]
      refine fr_sfi (by decide) ?_
      rw [e2]; exact fr_sal (by decide) f1
    · rw [a3]
      unfold insF
      by_cases u : p = P - d
      · rw [if_pos u, if_neg (by omega), if_pos u]
      · rw [if_neg u, a1 p hp]
        by_cases v : P - d < p
        · rw [if_pos v, if_neg (by omega), if_neg u]
        · rw [if_neg v, if_pos (by omega), if_pos (by omega)]
    · unfold insF
      split
      · exact h3 _ (by omega)
      · split
        · exact hx
        · exact h3 _ (by omega)
    · refine ins_sorted h4 (by omega) up1 (fun p p1 p2 => ?_)
      have sp := hseg p (by omega) p2
      exact Or.inr ⟨sp.1.symm, Or.inr ⟨sp.2.symm, o1 p p1 p2⟩⟩
  unfold wb_X4_insert_60
  rw [i_le (by omega) (by omega)]
  refine ⟨fun q2 => fin (Or.inl (by omega)), fun q2 => ?_⟩
  rw [i_pmn (by omega), i_cl (by omega), a1 _ (by omega), if_neg (by omega), if_pos (by omega)]
  refine ⟨i_in (by omega) (by omega), ?_⟩
  refine sq_cAhead hx (h3 _ (by omega)) (fun ha => ⟨_, rfl, fun _ => fin (Or.inr ha), fun e => absurd rfl e⟩) (fun ha => ⟨_, rfl, fun e => absurd e (by decide +kernel), fun _ => ⟨i_in (by omega) (by omega), i_in (by omega) (by omega), fun z2 e2 v3 e3 v4 e4 => ?_⟩⟩)
  rw [i_cl (by omega), a1 _ (by omega), if_neg (by omega), if_pos (by omega)] at e2
  rw [i_m1 (by omega)] at e4
  subst e3
  subst e4
  refine hB (by omega) _ ⟨z2, by rw [show P - (d + 1) = P - d - 1 by omega], by rw [e2]; exact fr_sal (by decide) f1, by rw [e2]; exact g1, fun p hp => ?_, fun p p1 p2 => ?_⟩
  · have a2 : tq_al z2 29 p = if p = P - d then lN (pcE (f (P - d - 1))) else tq_al z1 29 p := by rw [e2, rw_ale, rw_updL]
    rw [a2]
    by_cases u : p = P - d
    · rw [if_pos u, if_pos (by omega), u]
    · rw [if_neg u, a1 p hp]
      by_cases v : P - d < p
      · rw [if_pos v, if_pos (by omega)]
      · rw [if_neg v, if_neg (show ¬ P - (d + 1) < p by omega)]
  · by_cases u : p = P - d - 1
    · rw [u]; exact ha
    · exact o1 p (by omega) p2
end INS
