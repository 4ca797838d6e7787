/-! ===== the number of exact covers: shapes that hang together grow cell by cell ===== -/
def adV (x y x' y' : Int) : Prop := (x' = x ∧ (y' = y + 1 ∨ y' = y - 1)) ∨ (y' = y ∧ (x' = x + 1 ∨ x' = x - 1))
/-- V hangs together -/
def cnV (V : Int → Int → Prop) : Prop := ∀ B : Int → Int → Prop, (∃ x y, V x y ∧ B x y) → (∀ x y x' y', V x y → B x y → V x' y' → adV x y x' y' → B x' y') → ∀ x y, V x y → B x y
theorem hgp_cn {T : Int64} (hw : wS T) (h : hgp T) : cnV (bsh T) := by
  obtain ⟨lo, l1, -, l3⟩ := h
  intro B ⟨x0, y0, v0, b0⟩ hB x y hv
  have co : ∀ x y, bsh T x y → ct T (6 * y + x).toNat = true ∧ (((6 * y + x).toNat % 6 : Nat) : Int) = x ∧ (((6 * y + x).toNat / 6 : Nat) : Int) = y := fun x y u => by
    obtain ⟨u1, u2, u3, u4, u5⟩ := u
    exact ⟨u5, by omega, by omega⟩
  have step : ∀ a b, ct T a = true → ct T b = true → n6 a b = true → adV ((a % 6 : Nat) : Int) ((a / 6 : Nat) : Int) ((b % 6 : Nat) : Int) ((b / 6 : Nat) : Int) ∧ adV ((b % 6 : Nat) : Int) ((b / 6 : Nat) : Int) ((a % 6 : Nat) : Int) ((a / 6 : Nat) : Int) := fun a b _ _ hn => by
    unfold adV
    rcases n6_t.mp hn with q | q | q | q <;> omega
  have cl : ∀ a, ct T a = true → bsh T ((a % 6 : Nat) : Int) ((a / 6 : Nat) : Int) := fun a ha => (bsh_k (hw a ha)).mpr ha
  by_cases q : B ((lo % 6 : Nat) : Int) ((lo / 6 : Nat) : Int)
  · obtain ⟨a1, a2, a3⟩ := co x y hv
    have := l3 _ a1 (fun j => @decide (ct T j = true ∧ B ((j % 6 : Nat) : Int) ((j / 6 : Nat) : Int)) (Classical.propDecidable _)) (@decide_eq_true _ (Classical.propDecidable _) ⟨l1, q⟩) (fun a b ha hn hb => by
      have ha := @of_decide_eq_true _ (Classical.propDecidable _) ha
      exact @decide_eq_true _ (Classical.propDecidable _) ⟨hb, hB _ _ _ _ (cl a ha.1) ha.2 (cl b hb) (step a b ha.1 hb hn).1⟩)
    have := (@of_decide_eq_true _ (Classical.propDecidable _) this).2
    rw [a2, a3] at this
    exact this
  · exfalso
    obtain ⟨a1, a2, a3⟩ := co x0 y0 v0
    have := l3 _ a1 (fun j => @decide (ct T j = true ∧ ¬ B ((j % 6 : Nat) : Int) ((j / 6 : Nat) : Int)) (Classical.propDecidable _)) (@decide_eq_true _ (Classical.propDecidable _) ⟨l1, q⟩) (fun a b ha hn hb => by
      have ha := @of_decide_eq_true _ (Classical.propDecidable _) ha
      exact @decide_eq_true _ (Classical.propDecidable _) ⟨hb, fun u => ha.2 (hB _ _ _ _ (cl b hb) u (cl a ha.1) (step a b ha.1 hb hn).2)⟩)
    have := (@of_decide_eq_true _ (Classical.propDecidable _) this).2
    rw [a2, a3] at this
    exact this b0
theorem grow {V : Int → Int → Prop} (hc : cnV V) (l : List (Int × Int)) (hl : ∀ e ∈ l, V e.1 e.2) (h0 : ∃ e, e ∈ l) (hx : ∃ x y, V x y ∧ (x, y) ∉ l) : ∃ a ∈ l, ∃ b : Int × Int, b ∉ l ∧ V b.1 b.2 ∧ adV a.1 a.2 b.1 b.2 := by
  refine Classical.byContradiction (fun no => ?_)
  obtain ⟨x, y, v, n⟩ := hx
  obtain ⟨e, he⟩ := h0
  refine n (hc (fun x y => (x, y) ∈ l) ⟨e.1, e.2, hl e he, he⟩ (fun x y x' y' v1 m1 v2 ad => ?_) x y v)
  refine Classical.byContradiction (fun q => no ⟨(x, y), m1, (x', y'), q, v2, ad⟩)
theorem more {T : Int64} (hw : wS T) (l : List (Int × Int)) (h : l.length < fb_ct (ct T) 64) : ∃ x y, bsh T x y ∧ (x, y) ∉ l := by
  refine Classical.byContradiction (fun no => ?_)
  have ch : ∀ k, ∃ n, ct T k = true → n < l.length ∧ l[n]? = some (((k % 6 : Nat) : Int), ((k / 6 : Nat) : Int)) := fun k => by
    by_cases q : ct T k = true
    · have m : (((k % 6 : Nat) : Int), ((k / 6 : Nat) : Int)) ∈ l := Classical.byContradiction (fun u => no ⟨_, _, (bsh_k (hw k q)).mpr q, u⟩)
      obtain ⟨n, e⟩ := List.mem_iff_getElem?.mp m
      exact ⟨n, fun _ => ⟨(List.getElem?_eq_some_iff.mp e).1, e⟩⟩
    · exact ⟨0, fun u => absurd u q⟩
  have := cinj (N := l.length) (P := ct T) (R := fun _ => true) (g := fun k => Classical.choose (ch k)) (n := 64) (fun k _ hk => ⟨(Classical.choose_spec (ch k) hk).1, rfl⟩) (fun k k' _ _ hk hk' e => by
    have a := (Classical.choose_spec (ch k) hk).2
    have b := (Classical.choose_spec (ch k') hk').2
    have e : Classical.choose (ch k) = Classical.choose (ch k') := e
    rw [e, b] at a
    have a := Option.some.inj a
    have a1 := congrArg Prod.fst a
    have a2 := congrArg Prod.snd a
    simp only at a1 a2
    omega)
  have := Nat.le_trans this (fb_ct_le _ _)
  omega
/-! a pattern lies in a shape -/
def fr8 : List (Int × Int × Int × Int) := [(1, 0, 0, 1), (1, 0, 0, -1), (-1, 0, 0, 1), (-1, 0, 0, -1), (0, 1, 1, 0), (0, 1, -1, 0), (0, -1, 1, 0), (0, -1, -1, 0)]
def pat (l : List (Int × Int)) (V : Int → Int → Prop) : Prop := ∃ x y : Int, ∃ F ∈ fr8, ∀ e ∈ l, V (x + e.1 * F.1 + e.2 * F.2.2.1) (y + e.1 * F.2.1 + e.2 * F.2.2.2)
theorem fr8_t : ∀ F ∈ fr8, (-F.2.1, F.1, -F.2.2.2, F.2.2.1) ∈ fr8 := by decide
theorem fr8_m : ∀ F ∈ fr8, (-F.1, F.2.1, -F.2.2.1, F.2.2.2) ∈ fr8 := by decide
theorem pat_trn {l : List (Int × Int)} {V : Int → Int → Prop} (h : pat l V) : pat l (trn V) := by
  obtain ⟨x, y, F, hF, h⟩ := h
  refine ⟨5 - y, x, _, fr8_t F hF, fun e he => ?_⟩
  show V (x + e.1 * F.1 + e.2 * F.2.2.1) (5 - (5 - y + e.1 * -F.2.1 + e.2 * -F.2.2.2))
  rw [Int.mul_neg, Int.mul_neg, show 5 - (5 - y + -(e.1 * F.2.1) + -(e.2 * F.2.2.2)) = y + e.1 * F.2.1 + e.2 * F.2.2.2 by omega]
  exact h e he
theorem pat_mir {l : List (Int × Int)} {V : Int → Int → Prop} (h : pat l V) : pat l (mir V) := by
  obtain ⟨x, y, F, hF, h⟩ := h
  refine ⟨5 - x, y, _, fr8_m F hF, fun e he => ?_⟩
  show V (5 - (5 - x + e.1 * -F.1 + e.2 * -F.2.2.1)) (y + e.1 * F.2.1 + e.2 * F.2.2.2)
  rw [Int.mul_neg, Int.mul_neg, show 5 - (5 - x + -(e.1 * F.1) + -(e.2 * F.2.2.1)) = x + e.1 * F.1 + e.2 * F.2.2.1 by omega]
  exact h e he
theorem pat_tl {l : List (Int × Int)} {V W : Int → Int → Prop} (t : tl V W) (h : pat l V) : pat l W := by
  obtain ⟨a, b, t⟩ := t
  obtain ⟨x, y, F, hF, h⟩ := h
  refine ⟨x - a, y - b, F, hF, fun e he => (t _ _).mpr ?_⟩
  rw [show x - a + e.1 * F.1 + e.2 * F.2.2.1 + a = x + e.1 * F.1 + e.2 * F.2.2.1 by omega, show y - b + e.1 * F.2.1 + e.2 * F.2.2.2 + b = y + e.1 * F.2.1 + e.2 * F.2.2.2 by omega]
  exact h e he
theorem pat_tim {l : List (Int × Int)} {V : Int → Int → Prop} (h : pat l V) : ∀ n, pat l (tim n V)
  | 0 => h
  | n + 1 => pat_trn (pat_tim h n)
theorem pat_mo {l : List (Int × Int)} {V : Int → Int → Prop} (h : pat l V) (m : Nat) : pat l (mo m V) := by
  unfold mo
  by_cases q : m < 4
  · rw [if_pos q]; exact pat_tim h _
  · rw [if_neg q]; exact pat_tim (pat_mir h) _
