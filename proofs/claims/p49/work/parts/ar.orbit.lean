section ORB
variable {w h : Nat} {r : Bool} {S : Nat → Bool} {P K : Nat} {f : Nat → plc} {Z : Nat → Nat} {mo i0 : Nat}
noncomputable def wll (w h : Nat) (S : Nat → Bool) (P : Nat) (f : Nat → plc) (mo i0 : Nat) : Nat → Nat → Nat → Nat → (Nat → Nat) → Option (Nat × Nat × (Nat → Nat))
  | 0, _, c, g, l => some (c, g, l)
  | t + 1, q, c, g, l => if c &&& (f q).2.2.1 ≠ 0 ∨ l (f q).2.1 = 0 then none else
      match imO w h S P f mo q with
      | none => none
      | some q' => if q' = i0 then some (c ||| (f q).2.2.1, g &&& (f q).2.2.2, lsub l (f q).2.1 1) else wll w h S P f mo i0 t q' (c ||| (f q).2.2.1) (g &&& (f q).2.2.2) (lsub l (f q).2.1 1)
noncomputable def wlO (w h : Nat) (S : Nat → Bool) (P : Nat) (f : Nat → plc) (mo i0 : Nat) : Nat → Nat → List Nat
  | 0, _ => []
  | t + 1, q => q :: (match imO w h S P f mo q with
      | none => []
      | some q' => if q' = i0 then [] else wlO w h S P f mo i0 t q')
theorem wll_s {t q c g : Nat} {l : Nat → Nat} : wll w h S P f mo i0 (t + 1) q c g l = (if c &&& (f q).2.2.1 ≠ 0 ∨ l (f q).2.1 = 0 then none else
      match imO w h S P f mo q with
      | none => none
      | some q' => if q' = i0 then some (c ||| (f q).2.2.1, g &&& (f q).2.2.2, lsub l (f q).2.1 1) else wll w h S P f mo i0 t q' (c ||| (f q).2.2.1) (g &&& (f q).2.2.2) (lsub l (f q).2.1 1)) := rfl
theorem wlO_s {t q : Nat} : wlO w h S P f mo i0 (t + 1) q = q :: (match imO w h S P f mo q with
      | none => []
      | some q' => if q' = i0 then [] else wlO w h S P f mo i0 t q') := rfl
theorem imO_0 (hd : jd w h r S) (hpl : plg S Z P f) {q : Nat} (hq : q < P) : imO w h S P f 0 q = some q := (imO_P hpl).mpr ⟨hq, rfl, (img_0 hd (hpl.1 q hq).2.1).symm⟩
theorem wlp_l (hd : jd w h r S) (hpl : plg S Z P f) : ∀ (t q c g : Nat) (l : Nat → Nat), q < P → (mo ≠ 0 ∨ q = i0) → wlp w h S P f mo i0 t q c g l = wll w h S P f mo i0 t q c g l := by
  intro t
  induction t with
  | zero => intro q c g l _ _; rfl
  | succ t ih =>
    intro q c g l hq hm
    rw [wll_s]
    conv => lhs; unfold wlp
    by_cases u : c &&& (f q).2.2.1 ≠ 0 ∨ l (f q).2.1 = 0
    · rw [if_pos u, if_pos u]
    · rw [if_neg u, if_neg u]
      have same : (if mo = 0 then some i0 else imO w h S P f mo q) = imO w h S P f mo q := by
        by_cases m0 : mo = 0
        · rw [if_pos m0]
          have : q = i0 := hm.resolve_left (fun e => e m0)
          rw [m0, imO_0 hd hpl hq, this]
        · rw [if_neg m0]
      rw [same]
      cases e : imO w h S P f mo q with
      | none => rfl
      | some q' =>
        dsimp only
        by_cases v : q' = i0
        · rw [if_pos v, if_pos v]
        · rw [if_neg v, if_neg v]
          have q'P := (imO_s e).1
          refine ih q' _ _ _ q'P (Or.inl fun m0 => ?_)
          rw [m0, imO_0 hd hpl hq] at e
          have : q = i0 := hm.resolve_left (fun a => a m0)
          exact v (by rw [← Option.some.inj e, this])
theorem cmp_x {n c : Nat} {l : Nat → Nat} {X X' : Nat → Bool} (h : ∀ j, X j = X' j) (hX : cmp n P f c l X) : cmp n P f c l X' := by
  have : X = X' := funext h
  rw [← this]; exact hX
/-- what the way through a place's images does -/
theorem wll_A (hpl : plg S Z P f) : ∀ (t q c g : Nat) (l : Nat → Nat) (x : Nat × Nat × (Nat → Nat)), q < P → wll w h S P f mo i0 t q c g l = some x → (∀ a, a ∈ wlO w h S P f mo i0 t q → a < P ∧ c &&& (f a).2.2.1 = 0) ∧ (∀ b, x.1.testBit b = true ↔ c.testBit b = true ∨ ∃ a, a ∈ wlO w h S P f mo i0 t q ∧ (f a).2.2.1.testBit b = true) ∧ (∀ b, x.2.1.testBit b = true ↔ g.testBit b = true ∧ ∀ a, a ∈ wlO w h S P f mo i0 t q → (f a).2.2.2.testBit b = true) ∧ (∀ Y, cmp (fb_ct S 64) P f x.1 x.2.2 Y → cmp (fb_ct S 64) P f c l (fun j => Y j || decide (j ∈ wlO w h S P f mo i0 t q))) ∧ (∀ X, cmp (fb_ct S 64) P f c l X → (∀ a, a ∈ wlO w h S P f mo i0 t q → X a = true) → cmp (fb_ct S 64) P f x.1 x.2.2 (fun j => X j && !decide (j ∈ wlO w h S P f mo i0 t q))) := by
  have hp : plh (fb_ct S 64) P f := fun p hp => ⟨(hpl.1 p hp).2.1, (hpl.1 p hp).2.2.1, (hpl.1 p hp).2.2.2.1, (hpl.1 p hp).2.2.2.2.2⟩
  intro t
  induction t with
  | zero =>
    intro q c g l x hq e
    have e : some (c, g, l) = some x := e
    rw [← Option.some.inj e]
    have n0 : ∀ a, a ∉ wlO w h S P f mo i0 0 q := fun a m => by cases m
    refine ⟨fun a m => absurd m (n0 a), fun b => ⟨Or.inl, fun u => u.elim id (fun ⟨a, m, _⟩ => absurd m (n0 a))⟩, fun b => ⟨fun u => ⟨u, fun a m => absurd m (n0 a)⟩, fun u => u.1⟩, fun Y hY => cmp_x (fun j => by rw [decide_eq_false (n0 j), Bool.or_false]) hY, fun X hX _ => cmp_x (fun j => by rw [decide_eq_false (n0 j)]; simp) hX⟩
  | succ t ih =>
    intro q c g l x hq e
    rw [wll_s] at e
    by_cases u : c &&& (f q).2.2.1 ≠ 0 ∨ l (f q).2.1 = 0
    · rw [if_pos u] at e; cases e
    rw [if_neg u] at e
    have dis : c &&& (f q).2.2.1 = 0 := Classical.byContradiction fun a => u (Or.inl a)
    have l0 : l (f q).2.1 ≠ 0 := fun a => u (Or.inr a)
    cases im : imO w h S P f mo q with
    | none => rw [im] at e; cases e
    | some q' =>
      rw [im] at e
      dsimp only at e
      have q'P := (imO_s im).1
      by_cases v : q' = i0
      · rw [if_pos v] at e
        rw [← Option.some.inj e]
        have ho : wlO w h S P f mo i0 (t + 1) q = [q] := by rw [wlO_s, im]; dsimp only; rw [if_pos v]
        rw [ho]
        have m1 : ∀ a, a ∈ [q] ↔ a = q := fun a => List.mem_singleton
        refine ⟨fun a m => ?_, fun b => ?_, fun b => ?_, fun Y hY => ?_, fun X hX hO => ?_⟩
        · rw [(m1 a).mp m]; exact ⟨hq, dis⟩
        · show (c ||| (f q).2.2.1).testBit b = true ↔ _
          rw [Nat.testBit_or, Bool.or_eq_true]
          exact ⟨fun y => y.elim Or.inl (fun y => Or.inr ⟨q, (m1 q).mpr rfl, y⟩), fun y => y.elim Or.inl (fun ⟨a, m, y⟩ => Or.inr (by rw [← (m1 a).mp m]; exact y))⟩
        · show (g &&& (f q).2.2.2).testBit b = true ↔ _
          rw [Nat.testBit_and, Bool.and_eq_true]
          exact ⟨fun y => ⟨y.1, fun a m => by rw [(m1 a).mp m]; exact y.2⟩, fun y => ⟨y.1, y.2 q ((m1 q).mpr rfl)⟩⟩
        · exact cmp_x (fun j => by congr 1; exact decide_eq_decide.mpr (m1 j).symm) (cmp_in hq dis l0 hY)
        · exact cmp_x (fun j => by congr 2; exact decide_eq_decide.mpr (m1 j).symm) (cmp_rm hp hX (hO q ((m1 q).mpr rfl)))
      · rw [if_neg v] at e
        obtain ⟨i1, i2, i3, i4, i5⟩ := ih q' _ _ _ x q'P e
        have ho : wlO w h S P f mo i0 (t + 1) q = q :: wlO w h S P f mo i0 t q' := by rw [wlO_s, im]; dsimp only; rw [if_neg v]
        rw [ho]
        generalize wlO w h S P f mo i0 t q' = O at i1 i2 i3 i4 i5 ⊢
        have m1 : ∀ a, a ∈ q :: O ↔ a = q ∨ a ∈ O := fun a => List.mem_cons
        have nq : q ∉ O := fun m => by
          have := (i1 q m).2
          obtain ⟨p1, p2, _, _⟩ := hp q hq
          exact and_0.mp this _ ⟨by rw [Nat.testBit_or, p2, Bool.or_true], p2⟩
        refine ⟨fun a m => ?_, fun b => ?_, fun b => ?_, fun Y hY => ?_, fun X hX hO => ?_⟩
        · rcases (m1 a).mp m with y | y
          · rw [y]; exact ⟨hq, dis⟩
          · refine ⟨(i1 a y).1, and_0.mpr fun j z => and_0.mp (i1 a y).2 j ⟨by rw [Nat.testBit_or, z.1]; rfl, z.2⟩⟩
        · rw [i2 b, Nat.testBit_or, Bool.or_eq_true]
          constructor
          · rintro ((y | y) | ⟨a, m, y⟩)
            · exact Or.inl y
            · exact Or.inr ⟨q, (m1 q).mpr (Or.inl rfl), y⟩
            · exact Or.inr ⟨a, (m1 a).mpr (Or.inr m), y⟩
          · rintro (y | ⟨a, m, y⟩)
            · exact Or.inl (Or.inl y)
            · rcases (m1 a).mp m with z | z
              · rw [z] at y; exact Or.inl (Or.inr y)
              · exact Or.inr ⟨a, z, y⟩
        · rw [i3 b, Nat.testBit_and, Bool.and_eq_true]
          constructor
          · rintro ⟨⟨y1, y2⟩, y3⟩
            refine ⟨y1, fun a m => ?_⟩
            rcases (m1 a).mp m with z | z
            · rw [z]; exact y2
            · exact y3 a z
          · rintro ⟨y1, y2⟩
            exact ⟨⟨y1, y2 q ((m1 q).mpr (Or.inl rfl))⟩, fun a m => y2 a ((m1 a).mpr (Or.inr m))⟩
        · refine cmp_x (fun j => ?_) (cmp_in hq dis l0 (i4 Y hY))
          rw [Bool.or_assoc]
          congr 1
          by_cases y : j = q
          · rw [decide_eq_true y, decide_eq_true ((m1 j).mpr (Or.inl y)), Bool.or_true]
          · by_cases z : j ∈ O
            · rw [decide_eq_true z, decide_eq_true ((m1 j).mpr (Or.inr z))]; rfl
            · rw [decide_eq_false z, decide_eq_false y, decide_eq_false (fun m => ((m1 j).mp m).elim y z)]; rfl
        · refine cmp_x (fun j => ?_) (i5 _ (cmp_rm hp hX (hO q ((m1 q).mpr (Or.inl rfl)))) (fun a m => ?_))
          · rw [Bool.and_assoc]
            congr 1
            by_cases y : j = q
            · rw [decide_eq_true y, decide_eq_true ((m1 j).mpr (Or.inl y))]; rfl
            · by_cases z : j ∈ O
              · rw [decide_eq_true z, decide_eq_true ((m1 j).mpr (Or.inr z)), decide_eq_false y]; rfl
              · rw [decide_eq_false z, decide_eq_false y, decide_eq_false (fun m => ((m1 j).mp m).elim y z)]; rfl
          · have ne : a ≠ q := fun y => nq (by rw [← y]; exact m)
            rw [hO a ((m1 a).mpr (Or.inr m)), decide_eq_false ne]; rfl
/-- a set that the motion leaves as it is has all of them -/
theorem wll_B (hd : jd w h r S) (hpl : plg S Z P f) (hm : mo < 8) (hg : gok w h S mo = true) {X : Nat → Bool} (hX : ∀ a, X a = true → ∃ b, X b = true ∧ imO w h S P f mo a = some b) (hXP : ∀ a, X a = true → a < P) : ∀ (t q c g : Nat) (l : Nat → Nat) (V : Nat → Bool), cmp (fb_ct S 64) P f c l (fun j => X j && !V j) → X q = true → V q = false → (∀ a, V a = true → a = i0 ∨ ∃ b, V b = true ∧ imO w h S P f mo b = some a) → (q = i0 ∨ ∃ b, V b = true ∧ imO w h S P f mo b = some q) → (∀ a, V a = true → X a = true) → wll w h S P f mo i0 t q c g l ≠ none ∧ ∀ a, a ∈ wlO w h S P f mo i0 t q → X a = true := by
  have hp : plh (fb_ct S 64) P f := fun p hp => ⟨(hpl.1 p hp).2.1, (hpl.1 p hp).2.2.1, (hpl.1 p hp).2.2.2.1, (hpl.1 p hp).2.2.2.2.2⟩
  have inj : ∀ a b q', a < P → b < P → imO w h S P f mo a = some q' → imO w h S P f mo b = some q' → a = b := fun a b q' ha hb e1 e2 => by
    obtain ⟨_, k1, m1⟩ := (imO_P hpl).mp e1
    obtain ⟨_, k2, m2⟩ := (imO_P hpl).mp e2
    exact hpl.2 a b ha hb (by rw [← k1, k2]) (img_i hd hm hg (hpl.1 a ha).2.1 (hpl.1 b hb).2.1 (by rw [← m1, m2]))
  intro t
  induction t with
  | zero => intro q c g l V _ _ _ _ _ _; exact ⟨(by intro e; cases e), fun a m => by cases m⟩
  | succ t ih =>
    intro q c g l V hc hq hv hV hq0 hVX
    have XV : (X q && !V q) = true := by rw [hq, hv]; rfl
    obtain ⟨qP, dis⟩ := hc.1 q XV
    have l0 : l (f q).2.1 ≠ 0 := fun e => by
      have : fb_ct (fun j => (X j && !V j) && decide ((f j).2.1 = (f q).2.1)) P ≤ l (f q).2.1 := hc.2.2.2 (f q).2.1
      have pos := (fb_ct_pos (p := fun j => (X j && !V j) && decide ((f j).2.1 = (f q).2.1))).mpr ⟨q, qP, by rw [XV, decide_eq_true rfl]; rfl⟩
      omega
    obtain ⟨q', hq', im⟩ := hX q hq
    rw [wll_s, wlO_s, if_neg (fun a => a.elim (fun b => b dis) (fun b => l0 b)), im]
    dsimp only
    by_cases v : q' = i0
    · rw [if_pos v, if_pos v]
      refine ⟨(by intro e; cases e), fun a m => ?_⟩
      rw [List.mem_singleton.mp m]; exact hq
    · rw [if_neg v, if_neg v]
      have q'P := (imO_s im).1
      have nV : V q' = false := by
        cases y : V q'
        · rfl
        · rcases hV q' y with z | ⟨b, b1, b2⟩
          · exact absurd z v
          · have := inj b q q' (hXP b (hVX b b1)) qP b2 im
            rw [this, hv] at b1; cases b1
      have nq : q' ≠ q := fun y => by
        rcases hq0 with z | ⟨b, b1, b2⟩
        · exact v (by rw [y, z])
        · have := inj b q q (hXP b (hVX b b1)) qP b2 (by rw [← y] at im ⊢; rw [im])
          rw [this, hv] at b1; cases b1
      obtain ⟨r1, r2⟩ := ih q' (c ||| (f q).2.2.1) (g &&& (f q).2.2.2) (lsub l (f q).2.1 1) (fun j => V j || decide (j = q)) (cmp_x (fun j => by cases X j <;> cases V j <;> cases decide (j = q) <;> rfl) (cmp_rm hp hc XV)) hq' (by rw [nV, decide_eq_false nq]; rfl) (fun a ha => by
        simp only [Bool.or_eq_true, decide_eq_true_eq] at ha
        rcases ha with ha | ha
        · rcases hV a ha with z | ⟨b, b1, b2⟩
          · exact Or.inl z
          · exact Or.inr ⟨b, by rw [b1]; rfl, b2⟩
        · rw [ha]
          rcases hq0 with z | ⟨b, b1, b2⟩
          · exact Or.inl z
          · exact Or.inr ⟨b, by rw [b1]; rfl, b2⟩) (Or.inr ⟨q, by rw [decide_eq_true rfl, Bool.or_true], im⟩) (fun a ha => by
        simp only [Bool.or_eq_true, decide_eq_true_eq] at ha
        rcases ha with ha | ha
        · exact hVX a ha
        · rw [ha]; exact hq)
      refine ⟨r1, fun a m => ?_⟩
      rcases List.mem_cons.mp m with z | z
      · rw [z]; exact hq
      · exact r2 a z
/-- all images are there, and from there -/
theorem wlO_C (hd : jd w h r S) (hpl : plg S Z P f) (hm : mo < 8) (hg : gok w h S mo = true) (hi : i0 < P) {c g : Nat} {l : Nat → Nat} {x : Nat × Nat × (Nat → Nat)} (e : wll w h S P f mo i0 4 i0 c g l = some x) : (∀ a, a ∈ wlO w h S P f mo i0 4 i0 → ∃ b, b ∈ wlO w h S P f mo i0 4 i0 ∧ imO w h S P f mo a = some b) ∧ (∀ b, b ∈ wlO w h S P f mo i0 4 i0 → ∃ a, a ∈ wlO w h S P f mo i0 4 i0 ∧ imO w h S P f mo a = some b) ∧ i0 ∈ wlO w h S P f mo i0 4 i0 := by
  have nxt : ∀ t q c g l, wll w h S P f mo i0 (t + 1) q c g l = some x → ∃ q', imO w h S P f mo q = some q' ∧ (q' = i0 ∨ (q' ≠ i0 ∧ wll w h S P f mo i0 t q' (c ||| (f q).2.2.1) (g &&& (f q).2.2.2) (lsub l (f q).2.1 1) = some x)) := by
    intro t q c g l e
    rw [wll_s] at e
    by_cases u : c &&& (f q).2.2.1 ≠ 0 ∨ l (f q).2.1 = 0
    · rw [if_pos u] at e; cases e
    rw [if_neg u] at e
    cases im : imO w h S P f mo q with
    | none => rw [im] at e; cases e
    | some q' =>
      rw [im] at e
      dsimp only at e
      refine ⟨q', rfl, ?_⟩
      by_cases v : q' = i0
      · exact Or.inl v
      · rw [if_neg v] at e; exact Or.inr ⟨v, e⟩
  obtain ⟨q1, m1, c1⟩ := nxt 3 i0 _ _ _ e
  have o4 : ∀ t q q', imO w h S P f mo q = some q' → wlO w h S P f mo i0 (t + 1) q = if q' = i0 then [q] else q :: wlO w h S P f mo i0 t q' := fun t q q' im => by
    rw [wlO_s, im]
    dsimp only
    split <;> rfl
  rcases c1 with c1 | ⟨n1, c1⟩
  · rw [o4 3 i0 q1 m1, if_pos c1]
    rw [c1] at m1
    refine ⟨fun a ha => ⟨i0, List.mem_singleton.mpr rfl, by rw [List.mem_singleton.mp ha]; exact m1⟩, fun b hb => ⟨i0, List.mem_singleton.mpr rfl, by rw [List.mem_singleton.mp hb]; exact m1⟩, List.mem_singleton.mpr rfl⟩
  obtain ⟨q2, m2, c2⟩ := nxt 2 q1 _ _ _ c1
  rcases c2 with c2 | ⟨n2, c2⟩
  · rw [o4 3 i0 q1 m1, if_neg n1, o4 2 q1 q2 m2, if_pos c2]
    rw [c2] at m2
    refine ⟨fun a ha => ?_, fun b hb => ?_, by simp⟩
    · simp only [List.mem_cons, List.not_mem_nil, or_false] at ha
      rcases ha with rfl | rfl
      · exact ⟨q1, by simp, m1⟩
      · exact ⟨i0, by simp, m2⟩
    · simp only [List.mem_cons, List.not_mem_nil, or_false] at hb
      rcases hb with rfl | rfl
      · exact ⟨q1, by simp, m2⟩
      · exact ⟨i0, by simp, m1⟩
  obtain ⟨q3, m3, c3⟩ := nxt 1 q2 _ _ _ c2
  rcases c3 with c3 | ⟨n3, c3⟩
  · rw [o4 3 i0 q1 m1, if_neg n1, o4 2 q1 q2 m2, if_neg n2, o4 1 q2 q3 m3, if_pos c3]
    rw [c3] at m3
    refine ⟨fun a ha => ?_, fun b hb => ?_, by simp⟩
    · simp only [List.mem_cons, List.not_mem_nil, or_false] at ha
      rcases ha with rfl | rfl | rfl
      · exact ⟨q1, by simp, m1⟩
      · exact ⟨q2, by simp, m2⟩
      · exact ⟨i0, by simp, m3⟩
    · simp only [List.mem_cons, List.not_mem_nil, or_false] at hb
      rcases hb with rfl | rfl | rfl
      · exact ⟨q2, by simp, m3⟩
      · exact ⟨i0, by simp, m1⟩
      · exact ⟨q1, by simp, m2⟩
  obtain ⟨q4, m4, c4⟩ := nxt 0 q3 _ _ _ c3
  have four : q4 = i0 := by
    have p2 := imP_mul hd hm hm hg hg ((imO_P hpl).mp m1) ((imO_P hpl).mp m2)
    have g2 := gok_mul hd hm hm hg hg
    have p3 := imP_mul hd mmul_lt hm g2 hg p2 ((imO_P hpl).mp m3)
    have g3 := gok_mul hd mmul_lt hm g2 hg
    have p4 := imP_mul hd mmul_lt hm g3 hg p3 ((imO_P hpl).mp m4)
    rw [mpow_4 ⟨mo, hm⟩] at p4
    have := (imO_P hpl).mpr p4
    rw [imO_0 hd hpl hi] at this
    exact (Option.some.inj this).symm
  rw [o4 3 i0 q1 m1, if_neg n1, o4 2 q1 q2 m2, if_neg n2, o4 1 q2 q3 m3, if_neg n3, o4 0 q3 q4 m4, if_pos four]
  rw [four] at m4
  refine ⟨fun a ha => ?_, fun b hb => ?_, by simp⟩
  · simp only [List.mem_cons, List.not_mem_nil, or_false] at ha
    rcases ha with rfl | rfl | rfl | rfl
    · exact ⟨q1, by simp, m1⟩
    · exact ⟨q2, by simp, m2⟩
    · exact ⟨q3, by simp, m3⟩
    · exact ⟨i0, by simp, m4⟩
  · simp only [List.mem_cons, List.not_mem_nil, or_false] at hb
    rcases hb with rfl | rfl | rfl | rfl
    · exact ⟨q3, by simp, m4⟩
    · exact ⟨i0, by simp, m1⟩
    · exact ⟨q1, by simp, m2⟩
    · exact ⟨q2, by simp, m3⟩
end ORB
