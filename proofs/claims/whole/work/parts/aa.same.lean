/-! ===== exact covers: the places of both are the same ===== -/
section SAM
variable {w h : Nat} {r : Bool} {S : Nat → Bool} {K : Nat} {C M Z : Nat → Nat} {A : Nat → Int64}
theorem cvF_eq {s : Int64} {fx fy part fst fx' fy' part' fst' m : Nat} (same : ∀ j, cvi w r S fx' fy' part' j = cvi w r S fx fy part j) (e : cvF w r S s fx fy part fst 36 = some m) (hl : ∀ b, m.testBit b = true → fst' ≤ b) : cvF w r S s fx' fy' part' fst' 36 = some m := by
  obtain ⟨⟨o1, o2⟩, o3⟩ := (cvF_t 36).1 m e
  obtain ⟨m', e'⟩ := (cvF_t (w := w) (r := r) (S := S) (s := s) (fx := fx') (fy := fy') (part := part') (fst := fst') 36).2 ⟨fun j hj hs => by
    rw [same j]
    have c0 := o1 j hj hs
    have := hl (cvi w r S fx fy part j).toNat ((o3 _).mpr ⟨j, hj, hs, by omega⟩)
    omega, fun j j' a b hs hs' => by
    rw [same j, same j']
    exact o2 j j' a b hs hs'⟩
  rw [e']
  congr 1
  obtain ⟨_, o3'⟩ := (cvF_t 36).1 m' e'
  refine Nat.eq_of_testBit_eq fun b => ?_
  have : m'.testBit b = true ↔ m.testBit b = true := by
    rw [o3', o3]
    constructor
    · rintro ⟨j, a, b', c⟩
      exact ⟨j, a, b', by rw [← same j]; exact c⟩
    · rintro ⟨j, a, b', c⟩
      exact ⟨j, a, b', by rw [same j]; exact c⟩
  cases x : m'.testBit b <;> cases y : m.testBit b
  · rfl
  · rw [this.mpr y] at x; cases x
  · rw [this.mp x] at y; cases y
  · rfl
theorem cpx_cvi {fx fy part x0 : Nat} {p0 : Nat} (hp0 : p0 < 6) (hx : (x0 : Int) = cpx w r fx part p0) (j : Nat) : cvi w r S x0 fy p0 j = cvi w r S fx fy part j := by
  unfold cvi
  rw [cpx_sh hx]
theorem bsh_at {s : Int64} {x y : Int} (hb : bsh s x y) : ∃ j, j < 36 ∧ ct s j = true ∧ x = ((j % 6 : Nat) : Int) ∧ y = ((j / 6 : Nat) : Int) := by
  obtain ⟨h1, h2, h3, h4, h5⟩ := hb
  exact ⟨(6 * y + x).toNat, by omega, h5, by omega, by omega⟩
/-- what the class finds, the reference does -/
theorem src_r (hd : jd w h r S) (hs : shps K C Z A) {x : plc} (hx : srcs w h r S K C A x) : ∃ i c, i < C x.2.1 ∧ c < 64 ∧ c % 8 < w ∧ c / 8 < h ∧ cvF w r S (A (8 * x.2.1 + i)) (c % 8) (c / 8) 0 0 36 = some x.2.2.1 := by
  have hw8 := hd.2.1
  have hh8 := hd.2.2.2.1
  obtain ⟨xK, xn, i, part, hi, hp, hb, e, -⟩ := hx
  obtain ⟨w1, w2, w3⟩ := hs _ xK i hi
  obtain ⟨y0, hy0⟩ := w2.2.1
  obtain ⟨j, j36, jb, jx, jy⟩ := bsh_at hy0
  obtain ⟨⟨o1, o2⟩, o3⟩ := (cvF_t 36).1 _ e
  have c0 := o1 j j36 jb
  obtain ⟨k0, hk0⟩ : ∃ k0 : Nat, cvi w r S (kth S x.1 % 8) (kth S x.1 / 8) part j = (k0 : Int) := ⟨_, (Int.toNat_of_nonneg (by omega)).symm⟩
  obtain ⟨c, c1, c2, c3, c4, c5⟩ := cix_to hk0
  have rc := hd.2.2.2.2.2 c c2
  obtain ⟨f64, fS, _⟩ := kth_ok (p := S) xn
  have rf := hd.2.2.2.2.2 _ fS
  rw [show j % 6 = 0 by omega] at c3
  refine ⟨i, 8 * (kth S x.1 / 8) + c % 8, hi, by omega, by omega, by omega, ?_⟩
  rw [show (8 * (kth S x.1 / 8) + c % 8) % 8 = c % 8 by omega, show (8 * (kth S x.1 / 8) + c % 8) / 8 = kth S x.1 / 8 by omega]
  exact cvF_eq (fun j => cpx_cvi (by omega) c3.symm j) e (fun b _ => Nat.zero_le b)
/-- what the reference finds, the class does -/
theorem src_c (hd : jd w h r S) (hs : shps K C Z A) {x : plc} (hx : rsrc w h r S K C A x) (hb : rpb S x) : ∃ i part, i < C x.2.1 ∧ part < 6 ∧ ct (A (8 * x.2.1 + i)) part = true ∧ cvF w r S (A (8 * x.2.1 + i)) (kth S x.1 % 8) (kth S x.1 / 8) part x.1 36 = some x.2.2.1 := by
  have hw8 := hd.2.1
  have hh8 := hd.2.2.2.1
  obtain ⟨xK, i, c, hi, hc, hcw, hch, e⟩ := hx
  obtain ⟨b1, b2, b3, b4, b5, b6⟩ := hb
  obtain ⟨w1, w2, w3⟩ := hs _ xK i hi
  obtain ⟨⟨o1, o2⟩, o3⟩ := (cvF_t 36).1 _ e
  obtain ⟨j0, j36, jb, jc⟩ := (o3 _).mp b4
  obtain ⟨f0, f1, f2, f3, f4, f5⟩ := cix_to jc
  have ef : kth S x.1 = f0 := by rw [← f5]; exact kth_of f1 f2
  -- a part in the upper row
  obtain ⟨x0, hx0⟩ := w2.2.2
  obtain ⟨j1, k36, kb, kx, ky⟩ := bsh_at hx0
  have c0 := o1 j1 k36 kb
  obtain ⟨k1, hk1⟩ : ∃ k1 : Nat, cvi w r S (c % 8) (c / 8) 0 j1 = (k1 : Int) := ⟨_, (Int.toNat_of_nonneg (by omega)).symm⟩
  obtain ⟨g0, g1, g2, g3, g4, g5⟩ := cix_to hk1
  have tb := (o3 k1).mpr ⟨j1, k36, kb, hk1⟩
  have le : x.1 ≤ k1 := by
    refine Nat.le_of_not_lt fun u => ?_
    rw [b5 _ u] at tb; cases tb
  have row : f0 ≤ g0 := by
    refine Nat.le_of_not_lt fun u => ?_
    have := idx_lt g2 u
    omega
  have j6 : j0 < 6 := by omega
  refine ⟨i, j0, hi, j6, jb, ?_⟩
  rw [ef]
  rw [Nat.mod_eq_of_lt j6] at f3
  have same : ∀ j, cvi w r S (f0 % 8) (f0 / 8) j0 j = cvi w r S (c % 8) (c / 8) 0 j := fun j => by
    have := cpx_cvi (S := S) (fy := c / 8) j6 f3.symm j
    rw [← this, show f0 / 8 = c / 8 by omega]
  exact cvF_eq same e (fun b hbb => by
    refine Nat.le_of_not_lt fun u => ?_
    rw [b5 _ u] at hbb; cases hbb)
theorem rows_same {P P' : Nat} {f f' : Nat → plc} {z z' : tq_S} (hd : jd w h r S) (hs : shps K C Z A) (h1 : prs w h r S K C A P f z) (h2 : ∀ fst k i part, fst < fb_ct S 64 → k < K → cdn w r S C A P f fst k i part) (h3 : rrow S P' f' z') (h4 : ∀ p, p < P' → rsrc w h r S K C A (f' p)) (h5 : ∀ k i c, k < K → rdn w h r S C A P' f' k i c) : P = P' ∧ ∀ p, p < P → (f p).1 = (f' p).1 ∧ (f p).2.1 = (f' p).2.1 ∧ (f p).2.2.1 = (f' p).2.2.1 := by
  have low1 : ∀ {m a b : Nat}, m.testBit a = true → (∀ j, j < a → m.testBit j = false) → m.testBit b = true → (∀ j, j < b → m.testBit j = false) → a = b := fun {m a b} a1 a2 b1 b2 => by
    rcases Nat.lt_trichotomy a b with u | u | u
    · rw [b2 _ u] at a1; cases a1
    · exact u
    · rw [a2 _ u] at b1; cases b1
  have key := srt_same plt_t plt_i (f := fun p => ((f p).1, (f p).2.1, (f p).2.2.1, 0)) (g := f') (P := P) (P' := P') (fun p p' a b => h1.1.2.2.2 p p' a b) h3.2.2.2 (fun y => by
    constructor
    · rintro ⟨p, hp, rfl⟩
      have sp := h1.2 p hp
      obtain ⟨i, c, c1, c2, c3, c4, c5⟩ := src_r hd hs sp
      obtain ⟨q, q1, q2, q3⟩ := h5 _ i c sp.1 c1 c2 c3 c4 _ c5
      obtain ⟨b1, b2, b3, b4, b5, b6⟩ := h3.2.2.1 q q1
      rw [q3] at b4 b5
      obtain ⟨a1, a2⟩ := src_f hd sp
      exact ⟨q, q1, Prod.ext (low1 b4 b5 a1 a2) (Prod.ext q2 (Prod.ext q3 b6))⟩
    · rintro ⟨p, hp, rfl⟩
      have sp := h4 p hp
      have bp := h3.2.2.1 p hp
      obtain ⟨i, part, c1, c2, c3, c4⟩ := src_c hd hs sp bp
      obtain ⟨q, q1, q2, q3, q4⟩ := h2 _ _ i part bp.1 sp.1 c1 c2 c3 _ c4
      exact ⟨q, q1, Prod.ext q2 (Prod.ext q3 (Prod.ext q4 bp.2.2.2.2.2.symm))⟩)
  refine ⟨key.1, fun p hp => ?_⟩
  have e := key.2 p hp
  exact ⟨by rw [← e], by rw [← e], by rw [← e]⟩
end SAM
