def bsh (s : Int64) (x y : Int) : Prop := 0 ≤ x ∧ x < 6 ∧ 0 ≤ y ∧ y < 6 ∧ ct s (6 * y + x).toNat = true
def wS (s : Int64) : Prop := ∀ k, ct s k = true → k < 36
def trn (V : Int → Int → Prop) : Int → Int → Prop := fun x y => V y (5 - x)
def mir (V : Int → Int → Prop) : Int → Int → Prop := fun x y => V (5 - x) y
def tl (V W : Int → Int → Prop) : Prop := ∃ a b : Int, ∀ x y, W x y ↔ V (x + a) (y + b)
def nmz (V : Int → Int → Prop) : Prop := (∀ x y, V x y → 0 ≤ x ∧ 0 ≤ y) ∧ (∃ y, V 0 y) ∧ ∃ x, V x 0
/-- s is the shape V, put into the corner -/
def nz (V : Int → Int → Prop) (s : Int64) : Prop := wS s ∧ tl V (bsh s) ∧ nmz (bsh s)
theorem bsh_k {s : Int64} {k : Nat} (hk : k < 36) : bsh s ((k % 6 : Nat) : Int) ((k / 6 : Nat) : Int) ↔ ct s k = true := by
  have e : (6 * ((k / 6 : Nat) : Int) + ((k % 6 : Nat) : Int)).toNat = k := by omega
  unfold bsh
  rw [e]
  constructor
  · exact fun h => h.2.2.2.2
  · exact fun h => ⟨by omega, by omega, by omega, by omega, h⟩
theorem bsh_x {s s' : Int64} (h : wS s) (h' : wS s') (e : ∀ x y, bsh s x y ↔ bsh s' x y) : s = s' := by
  refine ct_ext (fun k _ => ?_)
  by_cases hk : k < 36
  · have := (bsh_k (s := s) hk).symm.trans ((e _ _).trans (bsh_k hk))
    exact Bool.eq_iff_iff.mpr this
  · have f : ∀ t, wS t → ct t k = false := by
      intro t ht
      cases q : ct t k
      · rfl
      · exact absurd (ht k q) hk
    rw [f s h, f s' h']
theorem nz_1 {V : Int → Int → Prop} {s s' : Int64} (h : nz V s) (h' : nz V s') : s = s' := by
  obtain ⟨w1, ⟨a, b, t1⟩, n1, ⟨y1, m1⟩, ⟨x1, l1⟩⟩ := h
  obtain ⟨w2, ⟨c, d, t2⟩, n2, ⟨y2, m2⟩, ⟨x2, l2⟩⟩ := h'
  have g : ∀ x y, bsh s' x y ↔ bsh s (x + (c - a)) (y + (d - b)) := by
    intro x y
    rw [t2, t1, show x + (c - a) + a = x + c by omega, show y + (d - b) + b = y + d by omega]
  have g' : ∀ x y, bsh s x y ↔ bsh s' (x - (c - a)) (y - (d - b)) := by
    intro x y
    rw [g, show x - (c - a) + (c - a) = x by omega, show y - (d - b) + (d - b) = y by omega]
  have p1 := (n1 _ _ ((g _ _).mp m2)).1
  have p2 := (n2 _ _ ((g' _ _).mp m1)).1
  have p3 := (n1 _ _ ((g _ _).mp l2)).2
  have p4 := (n2 _ _ ((g' _ _).mp l1)).2
  refine bsh_x w1 w2 (fun x y => ?_)
  rw [g', show x - (c - a) = x by omega, show y - (d - b) = y by omega]
theorem tl_t {V W U : Int → Int → Prop} (h : tl V W) (h2 : tl W U) : tl V U := by
  obtain ⟨a, b, h⟩ := h
  obtain ⟨c, d, h2⟩ := h2
  exact ⟨c + a, d + b, fun x y => by rw [h2, h, Int.add_assoc, Int.add_assoc]⟩
def tim : Nat → (Int → Int → Prop) → Int → Int → Prop
  | 0, V => V
  | n + 1, V => trn (tim n V)
/-- the m-th motion of a shape -/
def mo (m : Nat) (V : Int → Int → Prop) : Int → Int → Prop := tim (m % 4) (if m < 4 then V else mir V)
/-- one cell turned -/
def trp : Nat → Nat × Nat → Nat × Nat
  | 0, p => p
  | n + 1, p => (5 - (trp n p).2, (trp n p).1)
theorem trp_b {p : Nat × Nat} (h : p.1 < 6 ∧ p.2 < 6) : ∀ n, (trp n p).1 < 6 ∧ (trp n p).2 < 6
  | 0 => h
  | n + 1 => by
    have := trp_b h n
    show 5 - (trp n p).2 < 6 ∧ (trp n p).1 < 6
    omega
theorem trp_i {V : Int → Int → Prop} {p : Nat × Nat} (h : p.1 < 6 ∧ p.2 < 6) : ∀ n, tim n V ((trp n p).1 : Int) ((trp n p).2 : Int) ↔ V p.1 p.2
  | 0 => Iff.rfl
  | n + 1 => by
    have := trp_b h n
    show tim n V (((trp n p).1 : Nat) : Int) (5 - ((5 - (trp n p).2 : Nat) : Int)) ↔ _
    rw [show (5 : Int) - ((5 - (trp n p).2 : Nat) : Int) = ((trp n p).2 : Int) by omega]
    exact trp_i h n
theorem trp_o : ∀ (n : Nat) {x y : Nat}, x < 6 → y < 6 → ∃ p : Nat × Nat, (p.1 < 6 ∧ p.2 < 6) ∧ trp n p = (x, y)
  | 0, x, y, hx, hy => ⟨(x, y), ⟨hx, hy⟩, rfl⟩
  | n + 1, x, y, hx, hy => by
    obtain ⟨p, hp, e⟩ := trp_o n (x := y) (y := 5 - x) hy (by omega)
    refine ⟨p, hp, ?_⟩
    show (5 - (trp n p).2, (trp n p).1) = _
    rw [e, show 5 - (5 - x) = x by omega]
section SHP
variable {z : tq_S} {Q : tq_O → tq_S → Prop} {s : Int64}
theorem wS_6 (h : wS s) : wS (((Int64.toUInt64 s) >>> ((Int32.toInt64 (nI 6)).toUInt64 &&& Int64.toUInt64 63)).toInt64) := fun k e => by
  rw [ct_shr s k (by omega)] at e
  have := h _ e; omega
theorem wS_1 (h : wS s) : wS (((Int64.toUInt64 s) >>> ((Int32.toInt64 (nI 1)).toUInt64 &&& Int64.toUInt64 63)).toInt64) := fun k e => by
  rw [ct_shr s k (by omega)] at e
  have := h _ e; omega
theorem bsh_6 (h : wS s) (h0 : ∀ x, ¬ bsh s x 0) (x y : Int) : bsh (((Int64.toUInt64 s) >>> ((Int32.toInt64 (nI 6)).toUInt64 &&& Int64.toUInt64 63)).toInt64) x y ↔ bsh s x (y + 1) := by
  constructor
  · rintro ⟨a, b, c, d, e⟩
    rw [ct_shr s _ (by omega)] at e
    have := h _ e
    exact ⟨a, b, by omega, by omega, by rw [← e]; congr 1; omega⟩
  · intro q
    have hy : 0 ≤ y := by
      have := q.2.2.1
      by_cases y1 : y = -1
      · subst y1; exact absurd q (h0 x)
      · omega
    obtain ⟨a, b, c, d, e⟩ := q
    refine ⟨a, b, by omega, by omega, ?_⟩
    rw [ct_shr s _ (by omega), ← e]; congr 1; omega
theorem bsh_1 (h : wS s) (h0 : ∀ y, ¬ bsh s 0 y) (x y : Int) : bsh (((Int64.toUInt64 s) >>> ((Int32.toInt64 (nI 1)).toUInt64 &&& Int64.toUInt64 63)).toInt64) x y ↔ bsh s (x + 1) y := by
  constructor
  · rintro ⟨a, b, c, d, e⟩
    rw [ct_shr s _ (by omega)] at e
    have w := h _ e
    by_cases x5 : x = 5
    · subst x5
      exact absurd ⟨by omega, by omega, by omega, by omega, by rw [← e]; congr 1; omega⟩ (h0 (y + 1))
    · exact ⟨by omega, by omega, c, d, by rw [← e]; congr 1; omega⟩
  · intro q
    have hx : 0 ≤ x := by
      have := q.1
      by_cases x1 : x = -1
      · subst x1; exact absurd q (h0 y)
      · omega
    obtain ⟨a, b, c, d, e⟩ := q
    refine ⟨by omega, by omega, c, d, ?_⟩
    rw [ct_shr s _ (by omega), ← e]; congr 1; omega
theorem ct_r6 : ∀ i : Fin 64, ct (63 : Int64) i.val = decide (i.val < 6) := by decide +kernel
theorem ct_c6 : ∀ i : Fin 64, ct (1090785345 : Int64) i.val = (decide (i.val % 6 = 0) && decide (i.val < 36)) := by decide +kernel
theorem row_0 (h : wS s) : s &&& (63 : Int64) = 0 ↔ ∀ x, ¬ bsh s x 0 := by
  rw [ct_n0]
  constructor
  · rintro q x ⟨a, b, c, d, e⟩
    have := q x.toNat (by omega)
    rw [ct_and, ct_r6 ⟨x.toNat, by omega⟩, decide_eq_true (by show x.toNat < 6; omega), Bool.and_true] at this
    rw [show (6 * (0 : Int) + x).toNat = x.toNat by omega, this] at e
    cases e
  · intro q i hi
    rw [ct_and, ct_r6 ⟨i, hi⟩]
    cases e : ct s i
    · rfl
    · refine (Bool.true_and _).trans (decide_eq_false (fun u => q i ⟨by omega, ?_, by omega, by omega, ?_⟩))
      · have : i < 6 := u
        omega
      · rw [show (6 * (0 : Int) + (i : Int)).toNat = i by omega]; exact e
theorem col_0 (h : wS s) : s &&& (1090785345 : Int64) = 0 ↔ ∀ y, ¬ bsh s 0 y := by
  rw [ct_n0]
  constructor
  · rintro q y ⟨a, b, c, d, e⟩
    have := q (6 * y).toNat (by omega)
    rw [ct_and, ct_c6 ⟨(6 * y).toNat, by omega⟩, decide_eq_true (by show (6 * y).toNat % 6 = 0; omega), decide_eq_true (by show (6 * y).toNat < 36; omega), Bool.and_true, Bool.and_true] at this
    rw [show (6 * y + 0).toNat = (6 * y).toNat by omega, this] at e
    cases e
  · intro q i hi
    rw [ct_and, ct_c6 ⟨i, hi⟩]
    cases e : ct s i
    · rfl
    · refine (Bool.true_and _).trans ?_
      have w := h i e
      rw [Bool.and_eq_false_iff]
      refine Or.inl (decide_eq_false (fun u => q (i / 6 : Nat) ⟨by omega, by omega, by omega, by omega, ?_⟩))
      have u : i % 6 = 0 := u
      rw [show (6 * ((i / 6 : Nat) : Int) + 0).toNat = i by omega]; exact e
/-- the class puts a shape into the corner -/
theorem sq_corner {V : Int → Int → Prop} {a : Int64} (ha : wS a) (hV : tl V (bsh a)) (hx : ∃ x y, bsh a x y) (k : ∀ s, nz V s → Q (.inl (some (.long s))) z) : wc_X8_moved_102 Q a z := by
  have cols : ∀ a, wS a → tl V (bsh a) → (∃ x, bsh a x 0) → wc_X8_moved_132 Q a z := by
    intro a ha hV hx
    unfold wc_X8_moved_132 wc_X8_moved_135
    refine lp_inv (fun m s => ∃ b, s = (b, nI m, z) ∧ wS b ∧ tl V (bsh b) ∧ (∃ x, bsh b x 0) ∧ ∃ x y, bsh b x y ∧ x + m ≤ 5) 5 ?_ ⟨a, rfl, ha, hV, hx, by obtain ⟨x, hx⟩ := hx; exact ⟨x, 0, hx, by have := hx.2.1; omega⟩⟩
    rintro m s hm ⟨b, rfl, hb, hVb, r0, x1, y1, c1, c2⟩ B hB
    simp only
    unfold wb_X8_moved_135
    have fin : (∃ y, bsh b 0 y) → Q (.inl (some (.long b))) z := fun h0 => k b ⟨hb, hVb, fun x y q => ⟨q.1, q.2.2.1⟩, h0, r0⟩
    rw [i_5, i_le (by omega) (by omega)]
    refine ⟨fun q => fin ⟨y1, ?_⟩, fun q => ⟨fun u => fin ?_, fun u => ?_⟩⟩
    · have : x1 = 0 := by have := c1.1; omega
      rw [← this]; exact c1
    · rw [col_0 hb] at u
      exact Classical.byContradiction fun n => u fun y hy => n ⟨y, hy⟩
    · rw [col_0 hb] at u
      intro v1 e1 v2 e2
      rw [i_1] at e1 e2
      rw [i_add] at e2
      subst e1; subst e2
      have st := bsh_1 hb u
      refine hB (by omega) _ ⟨_, rfl, wS_1 hb, tl_t hVb ⟨1, 0, fun x y => by rw [st, Int.add_zero]⟩, ?_, x1 - 1, y1, ?_, by omega⟩
      · obtain ⟨x, hx⟩ := r0
        exact ⟨x - 1, by rw [st, show x - 1 + 1 = x by omega]; exact hx⟩
      · rw [st, show x1 - 1 + 1 = x1 by omega]; exact c1
  unfold wc_X8_moved_102 wc_X8_moved_105
  refine lp_inv (fun m s => ∃ b, s = (b, nI m, z) ∧ wS b ∧ tl V (bsh b) ∧ ∃ x y, bsh b x y ∧ y + m ≤ 5) 5 ?_ ⟨a, rfl, ha, hV, by obtain ⟨x, y, hx⟩ := hx; exact ⟨x, y, hx, by have := hx.2.2.2.1; omega⟩⟩
  rintro m s hm ⟨b, rfl, hb, hVb, x1, y1, c1, c2⟩ B hB
  simp only
  unfold wb_X8_moved_105
  rw [i_5, i_le (by omega) (by omega)]
  refine ⟨fun q => cols b hb hVb ⟨x1, ?_⟩, fun q => ⟨fun u => cols b hb hVb ?_, fun u => ?_⟩⟩
  · have : y1 = 0 := by have := c1.2.2.1; omega
    rw [← this]; exact c1
  · rw [row_0 hb] at u
    exact Classical.byContradiction fun n => u fun y hy => n ⟨y, hy⟩
  · rw [row_0 hb] at u
    intro v1 e1 v2 e2
    rw [i_6] at e1
    rw [i_1, i_add] at e2
    subst e1; subst e2
    have st := bsh_6 hb u
    refine hB (by omega) _ ⟨_, rfl, wS_6 hb, tl_t hVb ⟨0, 1, fun x y => by rw [st, Int.add_zero]⟩, x1, y1 - 1, ?_, by omega⟩
    rw [st, show y1 - 1 + 1 = y1 by omega]; exact c1
/-- where the m-th motion takes the i-th place -/
def mvp (m i : Nat) : Nat × Nat := trp (m % 4) (if m < 4 then i % 6 else 5 - i % 6, i / 6)
theorem mvp_b {m i : Nat} (hi : i < 36) : (mvp m i).1 < 6 ∧ (mvp m i).2 < 6 := by
  refine trp_b ⟨?_, ?_⟩ _
  · show (if m < 4 then i % 6 else 5 - i % 6) < 6
    split <;> omega
  · show i / 6 < 6
    omega
theorem mvp_V {m : Nat} {V : Int → Int → Prop} {i : Nat} (hi : i < 36) : mo m V ((mvp m i).1 : Int) ((mvp m i).2 : Int) ↔ V ((i % 6 : Nat) : Int) ((i / 6 : Nat) : Int) := by
  unfold mo mvp
  have hb : (if m < 4 then i % 6 else 5 - i % 6) < 6 ∧ i / 6 < 6 := by
    refine ⟨?_, by omega⟩
    split <;> omega
  rw [trp_i (p := (if m < 4 then i % 6 else 5 - i % 6, i / 6)) hb]
  by_cases q : m < 4
  · simp only [if_pos q]
  · simp only [if_neg q]
    show V (5 - ((5 - i % 6 : Nat) : Int)) _ ↔ _
    rw [show (5 : Int) - ((5 - i % 6 : Nat) : Int) = ((i % 6 : Nat) : Int) by omega]
theorem mvp_o {m x y : Nat} (hx : x < 6) (hy : y < 6) : ∃ i, i < 36 ∧ mvp m i = (x, y) := by
  obtain ⟨⟨p, q⟩, hp, e⟩ := trp_o (m % 4) hx hy
  have h1 : p < 6 := hp.1
  have h2 : q < 6 := hp.2
  by_cases c : m < 4
  · refine ⟨6 * q + p, by omega, ?_⟩
    unfold mvp
    rw [if_pos c, show (6 * q + p) % 6 = p by omega, show (6 * q + p) / 6 = q by omega]; exact e
  · refine ⟨6 * q + (5 - p), by omega, ?_⟩
    unfold mvp
    rw [if_neg c, show 5 - (6 * q + (5 - p)) % 6 = p by omega, show (6 * q + (5 - p)) / 6 = q by omega]; exact e
theorem mo_out {m : Nat} (hm : m < 8) {x y : Int} (h : mo m (bsh s) x y) : 0 ≤ x ∧ x < 6 ∧ 0 ≤ y ∧ y < 6 := by
  have a0 : ∀ V : Int → Int → Prop, (∀ x y, V x y → 0 ≤ x ∧ x < 6 ∧ 0 ≤ y ∧ y < 6) → ∀ n x y, tim n V x y → 0 ≤ x ∧ x < 6 ∧ 0 ≤ y ∧ y < 6 := by
    intro V hV n
    induction n with
    | zero => exact hV
    | succ n ih =>
      intro x y u
      have := ih _ _ (show tim n V y (5 - x) from u)
      omega
  refine a0 _ ?_ (m % 4) x y h
  intro x y u
  by_cases c : m < 4
  · rw [if_pos c] at u; exact ⟨u.1, u.2.1, u.2.2.1, u.2.2.2.1⟩
  · rw [if_neg c] at u
    have u : bsh s (5 - x) y := u
    have := u.1; have := u.2.1
    exact ⟨by omega, by omega, u.2.2.1, u.2.2.2.1⟩
theorem sq_cMoved {m : Nat} (hs : wS s) (h0 : ∃ i, ct s i = true) (hm : m < 8) (k : ∀ t, nz (mo m (bsh s)) t → Q (.inl (some (.long t))) z) : wm_X8_moved s (nI m) z Q := by
  unfold wm_X8_moved wc_X8_moved_5
  refine lp_inv (fun n st => ∃ b, st = (b, nI n, z) ∧ ∀ j, ct b j = true ↔ ∃ i, i < n ∧ ct s i = true ∧ j = 6 * (mvp m i).2 + (mvp m i).1) 36 ?_ ⟨0, rfl, fun j => by
    rw [ct_0]
    exact ⟨fun h => (by cases h), fun ⟨i, hi, _⟩ => absurd hi (by omega)⟩⟩
  rintro n st hn ⟨b, rfl, hb⟩ B hB
  simp only
  unfold wb_X8_moved_5
  rw [i_36, i_le (by omega) (by omega)]
  refine ⟨fun q => ?_, fun q => ?_⟩
  · have : n = 36 := by omega
    subst this
    have hw : wS b := by
      intro j hj
      obtain ⟨i, hi, _, e⟩ := (hb j).mp hj
      have := mvp_b (m := m) hi
      omega
    have hbs : ∀ x y, bsh b x y ↔ mo m (bsh s) x y := by
      intro x y
      have key : 0 ≤ x → x < 6 → 0 ≤ y → y < 6 → (ct b (6 * y + x).toNat = true ↔ mo m (bsh s) x y) := by
        intro a1 a2 a3 a4
        obtain ⟨i0, hi0, e0⟩ := mvp_o (m := m) (x := x.toNat) (y := y.toNat) (by omega) (by omega)
        have ex : ((mvp m i0).1 : Int) = x := by rw [e0]; show (x.toNat : Int) = x; omega
        have ey : ((mvp m i0).2 : Int) = y := by rw [e0]; show (y.toNat : Int) = y; omega
        have w := mvp_V (m := m) (V := bsh s) hi0
        rw [ex, ey, bsh_k hi0] at w
        rw [w, hb]
        constructor
        · rintro ⟨i, hi, ci, e⟩
          have bi := mvp_b (m := m) hi
          have w2 := mvp_V (m := m) (V := bsh s) hi
          have f1 : ((mvp m i).1 : Int) = x := by omega
          have f2 : ((mvp m i).2 : Int) = y := by omega
          rw [f1, f2, bsh_k hi] at w2
          exact w.mp (w2.mpr ci)
        · intro c
          exact ⟨i0, hi0, c, by omega⟩
      constructor
      · rintro ⟨a1, a2, a3, a4, e⟩
        exact (key a1 a2 a3 a4).mp e
      · intro u
        obtain ⟨a1, a2, a3, a4⟩ := mo_out hm u
        exact ⟨a1, a2, a3, a4, (key a1 a2 a3 a4).mpr u⟩
    refine sq_corner hw ⟨0, 0, fun x y => by rw [hbs, Int.add_zero, Int.add_zero]⟩ ?_ k
    obtain ⟨i, hi⟩ := h0
    have hi6 := hs i hi
    exact ⟨_, _, (hbs _ _).mpr ((mvp_V (m := m) hi6).mpr ((bsh_k hi6).mpr hi))⟩
  · have h36 : n < 36 := by omega
    have nx : ∀ b', (∀ j, ct b' j = true ↔ ∃ i, i < n + 1 ∧ ct s i = true ∧ j = 6 * (mvp m i).2 + (mvp m i).1) → wc_X8_moved_96 (fun b3 b5 z => B (b3, b5, z)) Q s (nI m) b' (nI n) z := by
      intro b' hb'
      unfold wc_X8_moved_96
      intro v e
      rw [i_1, i_add] at e
      subst e
      exact hB h36 _ ⟨b', rfl, hb'⟩
    rw [ct_t1 (by omega : n < 64)]
    have tu : ct s n = true → ∀ x0, x0 = (if m < 4 then n % 6 else 5 - n % 6) → wc_X8_moved_43 (fun b3 b5 z => B (b3, b5, z)) Q s (nI m) b (nI n) (nI x0) z := by
      intro cn x0 ex0
      have x06 : x0 < 6 := by rw [ex0]; split <;> omega
      unfold wc_X8_moved_43
      rw [i_6, pk_div (by omega) (by omega) (by omega)]
      intro v1 e1
      subst e1
      unfold wc_X8_moved_55
      refine lp_for (fun t => (nI (trp t (x0, n / 6)).1, nI (trp t (x0, n / 6)).2, nI t, z)) (m % 4) ?_ rfl
      intro t ht B2 hB2
      simp only
      have tb := trp_b (p := (x0, n / 6)) ⟨x06, by show n / 6 < 6; omega⟩ t
      unfold wb_X8_moved_55
      rw [i_4, pk_rem (by omega) (by omega) (by omega), i_le (by omega) (by omega)]
      refine ⟨fun q2 => ?_, fun q2 => ?_⟩
      · have et : t = m % 4 := by omega
        have em : trp t (x0, n / 6) = mvp m n := by rw [et, ex0]; rfl
        rw [em] at tb ⊢
        unfold wc_X8_moved_83
        intro v e
        rw [i_6, pk_mul, i_add] at e
        subst e
        refine nx _ (fun j => ?_)
        rw [ct_or, Bool.or_eq_true, ct_bit j (by omega), decide_eq_true_eq, hb]
        constructor
        · rintro (⟨i, hi, c, e⟩ | e)
          · exact ⟨i, by omega, c, e⟩
          · exact ⟨n, by omega, cn, e⟩
        · rintro ⟨i, hi, c, e⟩
          by_cases q3 : i = n
          · exact Or.inr (by rw [e, q3])
          · exact Or.inl ⟨i, by omega, c, e⟩
      · intro w1 g1 w2 g2
        rw [i_5, pk_sub (by omega)] at g1
        rw [i_1, i_add] at g2
        rw [g1, g2]
        exact hB2 (by omega)
    refine ⟨fun u => nx b (fun j => ?_), fun u => ?_⟩
    · rw [hb]
      constructor
      · rintro ⟨i, hi, c, e⟩
        exact ⟨i, by omega, c, e⟩
      · rintro ⟨i, hi, c, e⟩
        have : i ≠ n := fun q3 => by rw [q3, u] at c; cases c
        exact ⟨i, by omega, c, e⟩
    · have cn : ct s n = true := by rw [Bool.not_eq_false] at u; exact u
      rw [i_4, i_lt (by omega) (by omega), i_6, pk_rem (by omega) (by omega) (by omega)]
      refine ⟨fun q2 => tu cn _ (by rw [if_pos q2]), fun q2 => ?_⟩
      rw [i_5, pk_sub (by omega)]
      exact tu cn _ (by rw [if_neg q2])
end SHP
