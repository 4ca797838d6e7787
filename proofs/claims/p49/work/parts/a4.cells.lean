section CVT
variable {w h : Nat} {r : Bool} {S : Nat → Bool}
/-- the number of the cell of the j-th part -/
def cvi (w : Nat) (r : Bool) (S : Nat → Bool) (fx fy part j : Nat) : Int := cix S (cpx w r fx part (j % 6)) ((fy + j / 6 : Nat) : Int)
theorem cvF_s {s : Int64} {fx fy part fst i : Nat} : cvF w r S s fx fy part fst (i + 1) = (match cvF w r S s fx fy part fst i with
    | none => none
    | some m => if ct s i = true then (if cvi w r S fx fy part i < (fst : Int) ∨ m.testBit (cvi w r S fx fy part i).toNat = true then none else some (m ||| 2 ^ (cvi w r S fx fy part i).toNat)) else some m) := rfl
/-- all parts lie on cells from the first one on, each on its own -/
def cvok (w : Nat) (r : Bool) (S : Nat → Bool) (s : Int64) (fx fy part fst i : Nat) : Prop := (∀ j, j < i → ct s j = true → (fst : Int) ≤ cvi w r S fx fy part j) ∧ ∀ j j', j < j' → j' < i → ct s j = true → ct s j' = true → cvi w r S fx fy part j ≠ cvi w r S fx fy part j'
def cvm (w : Nat) (r : Bool) (S : Nat → Bool) (s : Int64) (fx fy part i m : Nat) : Prop := ∀ b, m.testBit b = true ↔ ∃ j, j < i ∧ ct s j = true ∧ cvi w r S fx fy part j = (b : Int)
theorem cvF_t {s : Int64} {fx fy part fst : Nat} : ∀ (i : Nat), (∀ m, cvF w r S s fx fy part fst i = some m → cvok w r S s fx fy part fst i ∧ cvm w r S s fx fy part i m) ∧ (cvok w r S s fx fy part fst i → ∃ m, cvF w r S s fx fy part fst i = some m)
  | 0 => ⟨fun m e => by
    have e0 : (0 : Nat) = m := Option.some.inj e
    rw [← e0]
    exact ⟨⟨fun j hj => absurd hj (Nat.not_lt_zero _), fun j j' _ hj => absurd hj (Nat.not_lt_zero _)⟩, fun b => ⟨fun e => (by rw [Nat.zero_testBit] at e; cases e), fun ⟨j, hj, _⟩ => absurd hj (Nat.not_lt_zero _)⟩⟩, fun _ => ⟨0, rfl⟩⟩
  | i + 1 => by
    obtain ⟨ih1, ih2⟩ := cvF_t (s := s) (fx := fx) (fy := fy) (part := part) (fst := fst) i
    have low : cvok w r S s fx fy part fst (i + 1) → cvok w r S s fx fy part fst i := fun u => ⟨fun j hj => u.1 j (by omega), fun j j' a b => u.2 j j' a (by omega)⟩
    constructor
    · intro m e
      rw [cvF_s] at e
      cases q : cvF w r S s fx fy part fst i with
      | none => rw [q] at e; cases e
      | some m' =>
        obtain ⟨⟨o1, o2⟩, o3⟩ := ih1 m' q
        rw [q] at e
        dsimp only at e
        by_cases u : ct s i = true
        · rw [if_pos u] at e
          by_cases v : cvi w r S fx fy part i < (fst : Int) ∨ m'.testBit (cvi w r S fx fy part i).toNat = true
          · rw [if_pos v] at e; cases e
          · rw [if_neg v] at e
            have em := Option.some.inj e
            have c0 : (fst : Int) ≤ cvi w r S fx fy part i := Int.not_lt.mp fun x => v (Or.inl x)
            have new : ∀ j, j < i → ct s j = true → cvi w r S fx fy part j ≠ cvi w r S fx fy part i := fun j hj hs e2 => v (Or.inr ((o3 _).mpr ⟨j, hj, hs, by omega⟩))
            refine ⟨⟨fun j hj hs => ?_, fun j j' a b hs hs' => ?_⟩, fun b => ?_⟩
            · by_cases x : j = i
              · rw [x]; exact c0
              · exact o1 j (by omega) hs
            · by_cases x : j' = i
              · rw [x]; exact new j (by omega) hs
              · exact o2 j j' a (by omega) hs hs'
            · rw [← em, tb_set, Bool.or_eq_true, decide_eq_true_eq, o3]
              constructor
              · rintro (⟨j, a, b', c⟩ | a)
                · exact ⟨j, by omega, b', c⟩
                · exact ⟨i, by omega, u, by omega⟩
              · rintro ⟨j, a, b', c⟩
                by_cases x : j = i
                · rw [x] at c; exact Or.inr (by omega)
                · exact Or.inl ⟨j, by omega, b', c⟩
        · rw [if_neg u] at e
          have em := Option.some.inj e
          refine ⟨⟨fun j hj hs => ?_, fun j j' a b hs hs' => ?_⟩, fun b => ?_⟩
          · by_cases x : j = i
            · rw [x] at hs; exact absurd hs u
            · exact o1 j (by omega) hs
          · by_cases x : j' = i
            · rw [x] at hs'; exact absurd hs' u
            · exact o2 j j' a (by omega) hs hs'
          · rw [← em, o3]
            constructor
            · rintro ⟨j, a, b', c⟩
              exact ⟨j, by omega, b', c⟩
            · rintro ⟨j, a, b', c⟩
              by_cases x : j = i
              · rw [x] at b'; exact absurd b' u
              · exact ⟨j, by omega, b', c⟩
    · intro hok
      obtain ⟨m', q⟩ := ih2 (low hok)
      obtain ⟨_, o3⟩ := ih1 m' q
      rw [cvF_s, q]
      dsimp only
      by_cases u : ct s i = true
      · rw [if_pos u, if_neg ?_]
        · exact ⟨_, rfl⟩
        · rintro (x | x)
          · have := hok.1 i (by omega) u; omega
          · obtain ⟨j, a, b', c⟩ := (o3 _).mp x
            have c0 := hok.1 i (by omega) u
            exact hok.2 j i a (by omega) b' u (by omega)
      · rw [if_neg u]; exact ⟨m', rfl⟩
theorem cix_of {c : Nat} (hc : c < 64) (hS : S c = true) : cix S ((c % 8 : Nat) : Int) ((c / 8 : Nat) : Int) = ((fb_ct S c : Nat) : Int) := by
  unfold cix
  rw [Int.toNat_natCast, Int.toNat_natCast, show 8 * (c / 8) + c % 8 = c by omega, if_pos ⟨by omega, by omega, by omega, by omega, hS⟩]
theorem cix_to {x y : Int} {k : Nat} (e : cix S x y = (k : Int)) : ∃ c, c < 64 ∧ S c = true ∧ x = ((c % 8 : Nat) : Int) ∧ y = ((c / 8 : Nat) : Int) ∧ fb_ct S c = k := by
  unfold cix at e
  by_cases u : 0 ≤ x ∧ x < 8 ∧ 0 ≤ y ∧ y < 8 ∧ S (8 * y.toNat + x.toNat) = true
  · rw [if_pos u] at e
    exact ⟨8 * y.toNat + x.toNat, by omega, u.2.2.2.2, by omega, by omega, by omega⟩
  · rw [if_neg u] at e; omega
/-- the part that is to be the first lies on the first cell -/
theorem cvi_p (hd : jd w h r S) {fst part : Nat} (hp : part < 6) (hf : fst < fb_ct S 64) : cvi w r S (kth S fst % 8) (kth S fst / 8) part part = (fst : Int) := by
  obtain ⟨c64, cS, e⟩ := kth_ok (p := S) hf
  have rc := hd.2.2.2.2.2 _ cS
  unfold cvi
  have e1 : cpx w r (kth S fst % 8) part (part % 6) = ((kth S fst % 8 : Nat) : Int) := by
    unfold cpx
    rw [Nat.mod_eq_of_lt hp]
    have e2 : ((kth S fst % 8 : Nat) : Int) - (part : Int) + (part : Int) = ((kth S fst % 8 : Nat) : Int) := by omega
    rw [e2]
    split
    · exact Int.emod_eq_of_lt (by omega) (by omega)
    · rfl
  rw [e1, Nat.div_eq_of_lt hp, Nat.add_zero, cix_of c64 cS, e]
theorem cvF_low (hd : jd w h r S) {s : Int64} {fst part m : Nat} (hp : part < 6) (hf : fst < fb_ct S 64) (hs : ct s part = true) (e : cvF w r S s (kth S fst % 8) (kth S fst / 8) part fst 36 = some m) : m.testBit fst = true ∧ ∀ j, j < fst → m.testBit j = false := by
  obtain ⟨⟨o1, o2⟩, o3⟩ := (cvF_t 36).1 m e
  refine ⟨(o3 _).mpr ⟨part, by omega, hs, cvi_p hd hp hf⟩, fun j hj => ?_⟩
  cases q : m.testBit j
  · rfl
  · obtain ⟨k, a, b, c⟩ := (o3 _).mp q
    have := o1 k a b
    omega
/-- the same cells, told from another part -/
theorem cpx_sh {fx part p0 x0 : Nat} (hx0 : (x0 : Int) = cpx w r fx part p0) (j : Nat) : cpx w r x0 p0 j = cpx w r fx part j := by
  unfold cpx at hx0 ⊢
  by_cases q : r = true
  · rw [if_pos q] at hx0 ⊢
    rw [if_pos q, hx0, show (((fx : Int) - part + p0) % (w : Int) - p0 + j) = ((fx : Int) - part + p0) % (w : Int) + (j - p0) by omega, Int.emod_add_emod, show (fx : Int) - part + p0 + (j - p0) = fx - part + j by omega]
  · rw [if_neg q] at hx0 ⊢
    rw [if_neg q, hx0]; omega
theorem cvF_sh {s : Int64} {fx fy part fst p0 m c : Nat} (hp0 : p0 < 6) (hc : c < 64) (hS : S c = true) (h0 : cvi w r S fx fy part p0 = ((fb_ct S c : Nat) : Int)) (e : cvF w r S s fx fy part fst 36 = some m) : cvF w r S s (c % 8) (c / 8) p0 0 36 = some m := by
  obtain ⟨c', c1, c2, c3, c4, c5⟩ := cix_to h0
  have cc : c' = c := fb_ct_kth_one c2 hS c5
  subst cc
  rw [Nat.mod_eq_of_lt hp0] at c3
  rw [Nat.div_eq_of_lt hp0, Nat.add_zero] at c4
  have same : ∀ j, cvi w r S (c' % 8) (c' / 8) p0 j = cvi w r S fx fy part j := fun j => by
    unfold cvi
    rw [cpx_sh c3.symm]
    congr 1
    omega
  obtain ⟨⟨o1, o2⟩, o3⟩ := (cvF_t 36).1 m e
  obtain ⟨m', e'⟩ := (cvF_t (w := w) (r := r) (S := S) (s := s) (fx := c' % 8) (fy := c' / 8) (part := p0) (fst := 0) 36).2 ⟨fun j hj hs => by
    rw [same j]
    have := o1 j hj hs
    omega, fun j j' a b hs hs' => by
    rw [same j, same j']
    exact o2 j j' a b hs hs'⟩
  rw [e']
  congr 1
  obtain ⟨_, o3'⟩ := (cvF_t 36).1 m' e'
  refine Nat.eq_of_testBit_eq fun b => ?_
  have : m'.testBit b = true ↔ m.testBit b = true := by
    rw [o3', o3]
    constructor
    · rintro ⟨j, a, b', c⟩
      exact ⟨j, a, b', by rw [← same j]; exact c⟩
    · rintro ⟨j, a, b', c⟩
      exact ⟨j, a, b', by rw [same j]; exact c⟩
  cases x : m'.testBit b <;> cases y : m.testBit b
  · rfl
  · rw [this.mpr y] at x; cases x
  · rw [this.mp x] at y; cases y
  · rfl
end CVT
