/-! ===== unlike: the motions of a place are those of its shape ===== -/
section GEO
variable {w h : Nat} {S : Nat → Bool} {K P : Nat} {C Z : Nat → Nat} {A : Nat → Int64} {f : Nat → plc}
/-- the cells of a mask -/
def CL (S : Nat → Bool) (m : Nat) (x y : Int) : Prop := 0 ≤ x ∧ x < 8 ∧ 0 ≤ y ∧ y < 8 ∧ S (8 * y.toNat + x.toNat) = true ∧ m.testBit (fb_ct S (8 * y.toNat + x.toNat)) = true
theorem CL_n {m : Nat} {x y : Int} (hd : jd w h false S) (hc : CL S m x y) : ∃ a b : Nat, x = (a : Int) ∧ y = (b : Int) ∧ a < w ∧ b < h ∧ S (8 * b + a) = true ∧ m.testBit (fb_ct S (8 * b + a)) = true := by
  obtain ⟨c1, c2, c3, c4, c5, c6⟩ := hc
  have rc := hd.2.2.2.2.2 _ c5
  exact ⟨x.toNat, y.toNat, by omega, by omega, by omega, by omega, c5, c6⟩
theorem CL_c {m a b : Nat} (hd : jd w h false S) (ha : a < w) (hb : b < h) (h1 : S (8 * b + a) = true) (h2 : m.testBit (fb_ct S (8 * b + a)) = true) : CL S m (a : Int) (b : Int) := by
  have hw8 := hd.2.1
  have hh8 := hd.2.2.2.1
  refine ⟨by omega, by omega, by omega, by omega, ?_, ?_⟩
  · rw [Int.toNat_natCast, Int.toNat_natCast]; exact h1
  · rw [Int.toNat_natCast, Int.toNat_natCast]; exact h2
theorem CL_k {m k : Nat} (hk : k < fb_ct S 64) : CL S m ((kth S k % 8 : Nat) : Int) ((kth S k / 8 : Nat) : Int) ↔ m.testBit k = true := by
  obtain ⟨k1, k2, k3⟩ := kth_ok (p := S) hk
  have e : 8 * (((kth S k / 8 : Nat) : Int)).toNat + (((kth S k % 8 : Nat) : Int)).toNat = kth S k := by omega
  unfold CL
  rw [e, k3]
  constructor
  · exact fun u => u.2.2.2.2.2
  · exact fun u => ⟨by omega, by omega, by omega, by omega, k2, u⟩
/-- what is laid is the shape, put elsewhere -/
theorem CL_of {s : Int64} {fx fy part fst m : Nat} (hd : jd w h false S) (e : cvF w false S s fx fy part fst 36 = some m) : tl (bsh s) (CL S m) := by
  obtain ⟨⟨o1, o2⟩, o3⟩ := (cvF_t 36).1 m e
  have cx : ∀ j, cvi w false S fx fy part j = cix S ((fx : Int) - (part : Int) + ((j % 6 : Nat) : Int)) ((fy + j / 6 : Nat) : Int) := fun j => rfl
  refine ⟨(part : Int) - fx, -(fy : Int), fun x y => ?_⟩
  constructor
  · intro u
    obtain ⟨a, b, ea, eb, aw, bh, c1, c2⟩ := CL_n hd u
    obtain ⟨j, j36, js, jc⟩ := (o3 _).mp c2
    rw [cx] at jc
    obtain ⟨c, c64, cS, ex, ey, ec⟩ := cix_to jc
    have hw8 := hd.2.1
    have cc : c = 8 * b + a := fb_ct_kth_one cS c1 ec
    have := (bsh_k (s := s) j36).mpr js
    rw [show x + ((part : Int) - fx) = ((j % 6 : Nat) : Int) by omega, show y + -(fy : Int) = ((j / 6 : Nat) : Int) by omega]
    exact this
  · intro u
    obtain ⟨j, j36, js, jx, jy⟩ := bsh_at u
    have c0 := o1 j j36 js
    obtain ⟨k0, hk0⟩ : ∃ k0 : Nat, cvi w false S fx fy part j = (k0 : Int) := ⟨_, (Int.toNat_of_nonneg (by omega)).symm⟩
    have tb := (o3 k0).mpr ⟨j, j36, js, hk0⟩
    rw [cx] at hk0
    obtain ⟨c, c64, cS, ex, ey, ec⟩ := cix_to hk0
    have rc := hd.2.2.2.2.2 _ cS
    rw [show x = ((c % 8 : Nat) : Int) by omega, show y = ((c / 8 : Nat) : Int) by omega]
    exact CL_c hd rc.2.1 rc.2.2 (by rw [show 8 * (c / 8) + c % 8 = c by omega]; exact cS) (by rw [show 8 * (c / 8) + c % 8 = c by omega, ec]; exact tb)
/-- and the other way round -/
theorem CL_to {s : Int64} {m : Nat} (hd : jd w h false S) (hn : nmz (bsh s)) (hm : m < 2 ^ fb_ct S 64) (ht : tl (bsh s) (CL S m)) : ∃ c, c < 64 ∧ c % 8 < w ∧ c / 8 < h ∧ cvF w false S s (c % 8) (c / 8) 0 0 36 = some m := by
  have hw8 := hd.2.1
  have hh8 := hd.2.2.2.1
  obtain ⟨a, b, ht⟩ := ht
  obtain ⟨n1, ⟨y1, n2⟩, ⟨x1, n3⟩⟩ := hn
  have p1 := (ht (-a) (y1 - b)).mpr (by rw [show -a + a = 0 by omega, show y1 - b + b = y1 by omega]; exact n2)
  have p2 := (ht (x1 - a) (-b)).mpr (by rw [show x1 - a + a = x1 by omega, show -b + b = 0 by omega]; exact n3)
  obtain ⟨x0, _, ex, _, xw, _, _, _⟩ := CL_n hd p1
  obtain ⟨_, y0, _, ey, _, yh, _, _⟩ := CL_n hd p2
  have m8 : (8 * y0 + x0) % 8 = x0 := by omega
  have d8 : (8 * y0 + x0) / 8 = y0 := by omega
  refine ⟨8 * y0 + x0, by omega, by omega, by omega, ?_⟩
  rw [m8, d8]
  have cx : ∀ j, j < 36 → ct s j = true → ∃ c, S c = true ∧ m.testBit (fb_ct S c) = true ∧ c % 8 = x0 + j % 6 ∧ c / 8 = y0 + j / 6 ∧ cvi w false S x0 y0 0 j = ((fb_ct S c : Nat) : Int) := fun j hj hs => by
    have u := (ht (((j % 6 : Nat) : Int) - a) (((j / 6 : Nat) : Int) - b)).mpr (by
      rw [show ((j % 6 : Nat) : Int) - a + a = ((j % 6 : Nat) : Int) by omega, show ((j / 6 : Nat) : Int) - b + b = ((j / 6 : Nat) : Int) by omega]
      exact (bsh_k hj).mpr hs)
    obtain ⟨a', b', ea, eb, aw, bh, c1, c2⟩ := CL_n hd u
    refine ⟨8 * b' + a', c1, c2, by omega, by omega, ?_⟩
    have := cix_of (S := S) (c := 8 * b' + a') (by omega) c1
    rw [← this]
    show cix S ((x0 : Int) - ((0 : Nat) : Int) + ((j % 6 : Nat) : Int)) ((y0 + j / 6 : Nat) : Int) = _
    rw [show (x0 : Int) - ((0 : Nat) : Int) + ((j % 6 : Nat) : Int) = (((8 * b' + a') % 8 : Nat) : Int) by omega, show y0 + j / 6 = (8 * b' + a') / 8 by omega]
  obtain ⟨m', e'⟩ := (cvF_t (w := w) (r := false) (S := S) (s := s) (fx := x0) (fy := y0) (part := 0) (fst := 0) 36).2 ⟨fun j hj hs => by
    obtain ⟨c, _, _, _, _, c5⟩ := cx j hj hs
    rw [c5]
    omega, fun j j' jj hj' hs hs' => by
    obtain ⟨c, c1, _, c3, c4, c5⟩ := cx j (by omega) hs
    obtain ⟨c', d1, _, d3, d4, d5⟩ := cx j' hj' hs'
    rw [c5, d5]
    intro e
    have := fb_ct_kth_one c1 d1 (by omega)
    omega⟩
  rw [e']
  congr 1
  obtain ⟨_, o3⟩ := (cvF_t 36).1 m' e'
  refine nat_x fun k => ?_
  rw [o3]
  constructor
  · rintro ⟨j, j36, js, jk⟩
    obtain ⟨c, c1, c2, _, _, c5⟩ := cx j j36 js
    rw [show k = fb_ct S c by omega]
    exact c2
  · intro u
    have kn := tb_in hm u
    have := (ht _ _).mp ((CL_k kn).mpr u)
    obtain ⟨j, j36, js, jx, jy⟩ := bsh_at this
    obtain ⟨c, c1, c2, c3, c4, c5⟩ := cx j j36 js
    obtain ⟨k1, k2, k3⟩ := kth_ok (p := S) kn
    refine ⟨j, j36, js, ?_⟩
    rw [c5, show c = kth S k by omega, k3]
/-- the cells of an image -/
theorem CL_i (hd : jd w h false S) {mo m : Nat} (hm : mo < 8) (hg : gok w h S mo = true) {x y : Int} : CL S (img w h S mo m) x y ↔ ∃ a b : Nat, CL S m (a : Int) (b : Int) ∧ a < w ∧ b < h ∧ x = (((act w h mo (a, b)).1 : Nat) : Int) ∧ y = (((act w h mo (a, b)).2 : Nat) : Int) := by
  have hw8 := hd.2.1
  have hh8 := hd.2.2.2.1
  constructor
  · intro u
    obtain ⟨a, b, ea, eb, aw, bh, c1, c2⟩ := CL_n hd u
    obtain ⟨j, jn, j1, j2⟩ := img_t.mp c2
    obtain ⟨k1, k2, k3⟩ := kth_ok (p := S) jn
    have rc := hd.2.2.2.2.2 _ k2
    obtain ⟨g1, g2, g3⟩ := gok_cell hd hm hg k2
    have mk := mvx_k hd hm hg jn
    rw [j2, kth_of (by omega) c1] at mk
    refine ⟨kth S j % 8, kth S j / 8, (CL_k jn).mpr j1, rc.2.1, rc.2.2, ?_, ?_⟩
    · rw [ea]; omega
    · rw [eb]; omega
  · rintro ⟨a, b, c, aw, bh, ex, ey⟩
    obtain ⟨a', b', ea, eb, _, _, c1, c2⟩ := CL_n hd c
    have ea : a' = a := by omega
    have eb : b' = b := by omega
    subst ea
    subst eb
    obtain ⟨g1, g2, g3⟩ := gok_cell hd hm hg c1
    have m8 : (8 * b' + a') % 8 = a' := by omega
    have d8 : (8 * b' + a') / 8 = b' := by omega
    rw [m8, d8] at g1 g2 g3
    rw [ex, ey]
    refine CL_c hd g1 g2 g3 (img_t.mpr ⟨fb_ct S (8 * b' + a'), ct_in (by omega) c1, c2, ?_⟩)
    unfold mvx
    rw [kth_of (by omega) c1, bmv_act hm (by omega) (by omega), m8, d8]
theorem CL_m (hd : jd w h false S) {m t : Nat} (hm : t < 8) (hg : gok w h S t = true) : tl (mo t (CL S m)) (CL S (img w h S t m)) := by
  rcases m8_ hm with rfl | rfl | rfl | rfl | rfl | rfl | rfl | rfl
  · refine ⟨0, 0, fun X Y => ?_⟩
    show _ ↔ CL S m (X + 0) (Y + 0)
    rw [CL_i hd hm hg]
    constructor
    · rintro ⟨a, b, c, aw, bh, e1, e2⟩
      have e1 : X = ((a : Nat) : Int) := e1
      have e2 : Y = ((b : Nat) : Int) := e2
      rw [show X + 0 = (a : Int) by omega, show Y + 0 = (b : Int) by omega]; exact c
    · intro c
      obtain ⟨a, b, ea, eb, aw, bh, _, _⟩ := CL_n hd c
      refine ⟨a, b, by rw [← ea, ← eb]; exact c, aw, bh, ?_, ?_⟩
      · show X = ((a : Nat) : Int); omega
      · show Y = ((b : Nat) : Int); omega
  · refine ⟨6 - (h : Int), 0, fun X Y => ?_⟩
    show _ ↔ CL S m (Y + 0) (5 - (X + (6 - (h : Int))))
    rw [CL_i hd hm hg]
    constructor
    · rintro ⟨a, b, c, aw, bh, e1, e2⟩
      have e1 : X = ((h - 1 - b : Nat) : Int) := e1
      have e2 : Y = ((a : Nat) : Int) := e2
      rw [show Y + 0 = (a : Int) by omega, show 5 - (X + (6 - (h : Int))) = (b : Int) by omega]; exact c
    · intro c
      obtain ⟨a, b, ea, eb, aw, bh, _, _⟩ := CL_n hd c
      refine ⟨a, b, by rw [← ea, ← eb]; exact c, aw, bh, ?_, ?_⟩
      · show X = ((h - 1 - b : Nat) : Int); omega
      · show Y = ((a : Nat) : Int); omega
  · refine ⟨6 - (w : Int), 6 - (h : Int), fun X Y => ?_⟩
    show _ ↔ CL S m (5 - (X + (6 - (w : Int)))) (5 - (Y + (6 - (h : Int))))
    rw [CL_i hd hm hg]
    constructor
    · rintro ⟨a, b, c, aw, bh, e1, e2⟩
      have e1 : X = ((w - 1 - a : Nat) : Int) := e1
      have e2 : Y = ((h - 1 - b : Nat) : Int) := e2
      rw [show 5 - (X + (6 - (w : Int))) = (a : Int) by omega, show 5 - (Y + (6 - (h : Int))) = (b : Int) by omega]; exact c
    · intro c
      obtain ⟨a, b, ea, eb, aw, bh, _, _⟩ := CL_n hd c
      refine ⟨a, b, by rw [← ea, ← eb]; exact c, aw, bh, ?_, ?_⟩
      · show X = ((w - 1 - a : Nat) : Int); omega
      · show Y = ((h - 1 - b : Nat) : Int); omega
  · refine ⟨0, 6 - (w : Int), fun X Y => ?_⟩
    have e : ∀ U V, mo 3 (CL S m) U V ↔ CL S m (5 - V) U := fun U V => by
      show CL S m (5 - V) (5 - (5 - U)) ↔ _
      rw [show 5 - (5 - U) = U by omega]
    rw [e, CL_i hd hm hg]
    constructor
    · rintro ⟨a, b, c, aw, bh, e1, e2⟩
      have e1 : X = ((b : Nat) : Int) := e1
      have e2 : Y = ((w - 1 - a : Nat) : Int) := e2
      rw [show 5 - (Y + (6 - (w : Int))) = (a : Int) by omega, show X + 0 = (b : Int) by omega]; exact c
    · intro c
      obtain ⟨a, b, ea, eb, aw, bh, _, _⟩ := CL_n hd c
      refine ⟨a, b, by rw [← ea, ← eb]; exact c, aw, bh, ?_, ?_⟩
      · show X = ((b : Nat) : Int); omega
      · show Y = ((w - 1 - a : Nat) : Int); omega
  · refine ⟨6 - (w : Int), 0, fun X Y => ?_⟩
    show _ ↔ CL S m (5 - (X + (6 - (w : Int)))) (Y + 0)
    rw [CL_i hd hm hg]
    constructor
    · rintro ⟨a, b, c, aw, bh, e1, e2⟩
      have e1 : X = ((w - 1 - a : Nat) : Int) := e1
      have e2 : Y = ((b : Nat) : Int) := e2
      rw [show 5 - (X + (6 - (w : Int))) = (a : Int) by omega, show Y + 0 = (b : Int) by omega]; exact c
    · intro c
      obtain ⟨a, b, ea, eb, aw, bh, _, _⟩ := CL_n hd c
      refine ⟨a, b, by rw [← ea, ← eb]; exact c, aw, bh, ?_, ?_⟩
      · show X = ((w - 1 - a : Nat) : Int); omega
      · show Y = ((b : Nat) : Int); omega
  · refine ⟨6 - (h : Int), 6 - (w : Int), fun X Y => ?_⟩
    show _ ↔ CL S m (5 - (Y + (6 - (w : Int)))) (5 - (X + (6 - (h : Int))))
    rw [CL_i hd hm hg]
    constructor
    · rintro ⟨a, b, c, aw, bh, e1, e2⟩
      have e1 : X = ((h - 1 - b : Nat) : Int) := e1
      have e2 : Y = ((w - 1 - a : Nat) : Int) := e2
      rw [show 5 - (Y + (6 - (w : Int))) = (a : Int) by omega, show 5 - (X + (6 - (h : Int))) = (b : Int) by omega]; exact c
    · intro c
      obtain ⟨a, b, ea, eb, aw, bh, _, _⟩ := CL_n hd c
      refine ⟨a, b, by rw [← ea, ← eb]; exact c, aw, bh, ?_, ?_⟩
      · show X = ((h - 1 - b : Nat) : Int); omega
      · show Y = ((w - 1 - a : Nat) : Int); omega
  · refine ⟨0, 6 - (h : Int), fun X Y => ?_⟩
    have e : ∀ U V, mo 6 (CL S m) U V ↔ CL S m U (5 - V) := fun U V => by
      show CL S m (5 - (5 - U)) (5 - V) ↔ _
      rw [show 5 - (5 - U) = U by omega]
    rw [e, CL_i hd hm hg]
    constructor
    · rintro ⟨a, b, c, aw, bh, e1, e2⟩
      have e1 : X = ((a : Nat) : Int) := e1
      have e2 : Y = ((h - 1 - b : Nat) : Int) := e2
      rw [show X + 0 = (a : Int) by omega, show 5 - (Y + (6 - (h : Int))) = (b : Int) by omega]; exact c
    · intro c
      obtain ⟨a, b, ea, eb, aw, bh, _, _⟩ := CL_n hd c
      refine ⟨a, b, by rw [← ea, ← eb]; exact c, aw, bh, ?_, ?_⟩
      · show X = ((a : Nat) : Int); omega
      · show Y = ((h - 1 - b : Nat) : Int); omega
  · refine ⟨0, 0, fun X Y => ?_⟩
    have e : ∀ U V, mo 7 (CL S m) U V ↔ CL S m V U := fun U V => by
      show CL S m (5 - (5 - V)) (5 - (5 - U)) ↔ _
      rw [show 5 - (5 - U) = U by omega, show 5 - (5 - V) = V by omega]
    rw [e, CL_i hd hm hg]
    constructor
    · rintro ⟨a, b, c, aw, bh, e1, e2⟩
      have e1 : X = ((b : Nat) : Int) := e1
      have e2 : Y = ((a : Nat) : Int) := e2
      rw [show X + 0 = (b : Int) by omega, show Y + 0 = (a : Int) by omega]; exact c
    · intro c
      obtain ⟨a, b, ea, eb, aw, bh, _, _⟩ := CL_n hd c
      refine ⟨a, b, by rw [← ea, ← eb]; exact c, aw, bh, ?_, ?_⟩
      · show X = ((b : Nat) : Int); omega
      · show Y = ((a : Nat) : Int); omega
theorem tl_mo {V W : Int → Int → Prop} (h : tl V W) (t : Nat) : tl (mo t V) (mo t W) := by
  unfold mo
  by_cases u : t < 4
  · rw [if_pos u, if_pos u]; exact tl_tim h _
  · rw [if_neg u, if_neg u]; exact tl_tim (tl_mir h) _
theorem GL_of (hd : jd w h false S) (hs : shps K C Z A) (hK : K ≤ 6) (hpl : plg S Z P f) (hp : ∀ p, p < P → srcs w h false S K C A (f p)) (hcd : ∀ fst k i part, fst < fb_ct S 64 → k < K → cdn w false S C A P f fst k i part) : GLp w h S P f := by
  intro a m ha hg
  obtain ⟨m8, gm⟩ := grB_g hd hg
  obtain ⟨aK, an, i, part, hi, hpt, hb, e, bits⟩ := hp a ha
  rw [bits, hg, Bool.true_and, motB_t]
  have t1 : tl (mo m (bsh (A (8 * (f a).2.1 + i)))) (CL S (img w h S m (f a).2.2.1)) := tl_t (tl_mo (CL_of hd e) m) (CL_m hd m8 gm)
  constructor
  · rintro ⟨i', hi', ei⟩
    obtain ⟨w1, w2, w3⟩ := hs _ aK i' hi'
    have nzz : nz (mo m (bsh (A (8 * (f a).2.1 + i)))) (A (8 * (f a).2.1 + i')) := by
      rw [ei]
      unfold shf nzs
      by_cases ex : ∃ s, nz (mo m (bsh (A (8 * (f a).2.1 + i)))) s
      · rw [dif_pos ex]; exact Classical.choose_spec ex
      · have z0 : A (8 * (f a).2.1 + i') = 0 := by
          rw [ei]
          unfold shf nzs
          exact dif_neg ex
        rw [z0] at w2
        obtain ⟨_, ⟨y, hy⟩, _⟩ := w2
        have := hy.2.2.2.2
        rw [ct_0] at this
        cases this
    have t2 : tl (bsh (A (8 * (f a).2.1 + i'))) (CL S (img w h S m (f a).2.2.1)) := tl_t (tl_s nzz.2.1) t1
    have il := img_lt (c := (f a).2.2.1) hd gm
    obtain ⟨c, c64, cw, ch, ec⟩ := CL_to hd w2 il t2
    obtain ⟨fb, f1, f2, f3⟩ := cvF_fst w1 (nz_0 nzz) ec
    obtain ⟨i2, p2, q1, q2, q3, q4⟩ := src_c hd hs (x := (fb, (f a).2.1, img w h S m (f a).2.2.1, 0)) ⟨aK, i', c, hi', c64, cw, ch, ec⟩ ⟨f1, Nat.lt_of_lt_of_le aK hK, il, f2, f3, rfl⟩
    obtain ⟨q, u1, u2, u3, u4⟩ := hcd fb (f a).2.1 i2 p2 f1 aK q1 q2 q3 _ q4
    exact ⟨q, u1, u3, u4⟩
  · rintro ⟨q, hq, ek, em⟩
    obtain ⟨qK, qn, i', part', hi', _, _, e', _⟩ := hp q hq
    rw [ek] at hi' e'
    rw [em] at e'
    obtain ⟨w1, w2, w3⟩ := hs _ aK i' hi'
    have t2 : tl (bsh (A (8 * (f a).2.1 + i'))) (CL S (img w h S m (f a).2.2.1)) := CL_of hd e'
    exact ⟨i', hi', nzs_e ⟨w1, tl_t t1 (tl_s t2), w2⟩⟩
end GEO
