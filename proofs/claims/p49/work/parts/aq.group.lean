section MGR
variable {w h : Nat} {r : Bool} {S : Nat → Bool} {P : Nat} {f : Nat → plc}
/-- where a motion takes x and y -/
def act (w h m : Nat) (p : Nat × Nat) : Nat × Nat :=
  if m = 0 then p else if m = 1 then (h - 1 - p.2, p.1) else if m = 2 then (w - 1 - p.1, h - 1 - p.2) else if m = 3 then (p.2, w - 1 - p.1)
  else if m = 4 then (w - 1 - p.1, p.2) else if m = 5 then (h - 1 - p.2, w - 1 - p.1) else if m = 6 then (p.1, h - 1 - p.2) else (p.2, p.1)
def mmul (a b : Nat) : Nat := 4 * ((a / 4 + b / 4) % 2) + (if b < 4 then (a % 4 + b % 4) % 4 else (b % 4 + 4 - a % 4) % 4)
theorem m8_ {m : Nat} (hm : m < 8) : m = 0 ∨ m = 1 ∨ m = 2 ∨ m = 3 ∨ m = 4 ∨ m = 5 ∨ m = 6 ∨ m = 7 := by omega
theorem bmv_act {m c : Nat} (hm : m < 8) (hx : c % 8 < w) (hy : c / 8 < h) : bmv w h m c = act w h m (c % 8, c / 8) := by
  have two : ∀ p : Nat × Nat, p.1 < w → p.2 < h → brt w h 2 p = (w - 1 - p.1, h - 1 - p.2) := fun p _ _ => rfl
  have thr : ∀ p : Nat × Nat, p.1 < w → p.2 < h → brt w h 3 p = (p.2, w - 1 - p.1) := fun p _ h2 => by
    show (h - 1 - (h - 1 - p.2), w - 1 - p.1) = _
    rw [show h - 1 - (h - 1 - p.2) = p.2 by omega]
  rcases m8_ hm with rfl | rfl | rfl | rfl | rfl | rfl | rfl | rfl
  · rfl
  · rfl
  · rfl
  · exact thr _ hx hy
  · rfl
  · rfl
  · show (w - 1 - (w - 1 - c % 8), h - 1 - c / 8) = (c % 8, h - 1 - c / 8)
    rw [show w - 1 - (w - 1 - c % 8) = c % 8 by omega]
  · show brt w h 3 (w - 1 - c % 8, c / 8) = (c / 8, c % 8)
    rw [thr _ (by show w - 1 - c % 8 < w; omega) hy]
    show (c / 8, w - 1 - (w - 1 - c % 8)) = _
    rw [show w - 1 - (w - 1 - c % 8) = c % 8 by omega]
theorem act_mul {a b : Nat} {p : Nat × Nat} (ha : a < 8) (hb : b < 8) (hx : p.1 < w) (hy : p.2 < h) (h1 : a % 2 = 1 → w = h) (h2 : b % 2 = 1 → w = h) : act w h b (act w h a p) = act w h (mmul a b) p := by
  obtain ⟨x, y⟩ := p
  have hx : x < w := hx
  have hy : y < h := hy
  rcases m8_ ha with rfl | rfl | rfl | rfl | rfl | rfl | rfl | rfl <;> rcases m8_ hb with rfl | rfl | rfl | rfl | rfl | rfl | rfl | rfl <;> refine Prod.ext ?_ ?_ <;> simp [act, mmul] <;> omega
theorem mmul_lt {a b : Nat} : mmul a b < 8 := by
  unfold mmul
  split <;> omega
theorem gok_cell (hd : jd w h r S) {m c : Nat} (hm : m < 8) (hg : gok w h S m = true) (hc : S c = true) : (act w h m (c % 8, c / 8)).1 < w ∧ (act w h m (c % 8, c / 8)).2 < h ∧ S (8 * (act w h m (c % 8, c / 8)).2 + (act w h m (c % 8, c / 8)).1) = true := by
  have rc := hd.2.2.2.2.2 c hc
  have hw8 := hd.2.1
  have hh8 := hd.2.2.2.1
  obtain ⟨g1, g2⟩ := gok_t.mp hg
  have b := bmv_b hd hc g1
  have e := g2 c rc.1 hc
  rw [ho_n (by omega) (by omega)] at e
  simp only [Bool.and_eq_true] at e
  rw [← bmv_act hm rc.2.1 rc.2.2]
  exact ⟨b.1, b.2, e.2⟩
theorem gok_mul (hd : jd w h r S) {a b : Nat} (ha : a < 8) (hb : b < 8) (ga : gok w h S a = true) (gb : gok w h S b = true) : gok w h S (mmul a b) = true := by
  have hw8 := hd.2.1
  have hh8 := hd.2.2.2.1
  obtain ⟨a1, a2⟩ := gok_t.mp ga
  obtain ⟨b1, b2⟩ := gok_t.mp gb
  refine gok_t.mpr ⟨fun e => ?_, fun c hc hS => ?_⟩
  · unfold mmul at e
    by_cases u : a % 2 = 1
    · exact a1 u
    · by_cases v : b % 2 = 1
      · exact b1 v
      · exfalso
        split at e <;> omega
  · have rc := hd.2.2.2.2.2 c hS
    obtain ⟨c1, c2, c3⟩ := gok_cell hd ha ga hS
    obtain ⟨d1, d2, d3⟩ := gok_cell hd hb gb c3
    rw [bmv_act mmul_lt rc.2.1 rc.2.2, ← act_mul ha hb rc.2.1 rc.2.2 a1 b1]
    have e1 : ((8 * (act w h a (c % 8, c / 8)).2 + (act w h a (c % 8, c / 8)).1) % 8, (8 * (act w h a (c % 8, c / 8)).2 + (act w h a (c % 8, c / 8)).1) / 8) = act w h a (c % 8, c / 8) := Prod.ext (by dsimp only; omega) (by dsimp only; omega)
    rw [e1] at d1 d2 d3
    rw [ho_n (by omega) (by omega), decide_eq_true d1, decide_eq_true d2, d3]; rfl
theorem mvx_k (hd : jd w h r S) {m i : Nat} (hm : m < 8) (hg : gok w h S m = true) (hi : i < fb_ct S 64) : kth S (mvx w h S m i) = 8 * (act w h m (kth S i % 8, kth S i / 8)).2 + (act w h m (kth S i % 8, kth S i / 8)).1 := by
  have hw8 := hd.2.1
  have hh8 := hd.2.2.2.1
  obtain ⟨k1, k2, _⟩ := kth_ok (p := S) hi
  have rc := hd.2.2.2.2.2 _ k2
  obtain ⟨c1, c2, c3⟩ := gok_cell hd hm hg k2
  unfold mvx
  rw [bmv_act hm rc.2.1 rc.2.2]
  exact kth_of (by omega) c3
theorem mvx_mul (hd : jd w h r S) {a b i : Nat} (ha : a < 8) (hb : b < 8) (ga : gok w h S a = true) (gb : gok w h S b = true) (hi : i < fb_ct S 64) : mvx w h S b (mvx w h S a i) = mvx w h S (mmul a b) i := by
  have hw8 := hd.2.1
  have hh8 := hd.2.2.2.1
  obtain ⟨k1, k2, _⟩ := kth_ok (p := S) hi
  have rc := hd.2.2.2.2.2 _ k2
  have mi := (mvx_lt hd ga hi).1
  have e1 := mvx_k hd ha ga hi
  have e2 := mvx_k hd hb gb mi
  have e3 := mvx_k hd mmul_lt (gok_mul hd ha hb ga gb) hi
  obtain ⟨c1, c2, c3⟩ := gok_cell hd ha ga k2
  have e4 : ((8 * (act w h a (kth S i % 8, kth S i / 8)).2 + (act w h a (kth S i % 8, kth S i / 8)).1) % 8, (8 * (act w h a (kth S i % 8, kth S i / 8)).2 + (act w h a (kth S i % 8, kth S i / 8)).1) / 8) = act w h a (kth S i % 8, kth S i / 8) := Prod.ext (by dsimp only; omega) (by dsimp only; omega)
  rw [e1, e4, act_mul ha hb rc.2.1 rc.2.2 (gok_t.mp ga).1 (gok_t.mp gb).1, ← e3] at e2
  have m2 := (mvx_lt hd gb mi).1
  have m3 := (mvx_lt hd (gok_mul hd ha hb ga gb) hi).1
  rw [← (kth_ok m2).2.2, ← (kth_ok m3).2.2, e2]
theorem gok_0 (hd : jd w h r S) : gok w h S 0 = true := gok_t.mpr ⟨fun e => absurd e (by decide), fun c hc hS => by
  have rc := hd.2.2.2.2.2 c hS
  have hw8 := hd.2.1
  have hh8 := hd.2.2.2.1
  rw [bmv_act (by omega) rc.2.1 rc.2.2]
  show ho w h S (nI (c % 8)) (nI (c / 8)) = true
  rw [ho_n (by omega) (by omega), decide_eq_true rc.2.1, decide_eq_true rc.2.2, show 8 * (c / 8) + c % 8 = c by omega, hS]; rfl⟩
theorem mvx_0 (hd : jd w h r S) {i : Nat} (hi : i < fb_ct S 64) : mvx w h S 0 i = i := by
  have e := mvx_k hd (by omega) (gok_0 hd) hi
  have m := (mvx_lt hd (gok_0 hd) hi).1
  have : kth S (mvx w h S 0 i) = kth S i := by
    rw [e]
    show 8 * (kth S i / 8) + kth S i % 8 = kth S i
    omega
  rw [← (kth_ok m).2.2, this, (kth_ok hi).2.2]
def minv (m : Nat) : Nat := if m = 1 then 3 else if m = 3 then 1 else m
theorem minv_m : ∀ m : Fin 8, mmul m.val (minv m.val) = 0 ∧ mmul (minv m.val) m.val = 0 ∧ minv m.val < 8 := by decide
theorem mpow_4 : ∀ m : Fin 8, mmul (mmul (mmul m.val m.val) m.val) m.val = 0 := by decide
theorem gok_inv (hd : jd w h r S) {m : Nat} (hm : m < 8) (hg : gok w h S m = true) : gok w h S (minv m) = true := by
  rcases m8_ hm with rfl | rfl | rfl | rfl | rfl | rfl | rfl | rfl
  · exact hg
  · exact gok_mul hd mmul_lt (by omega) (gok_mul hd (by omega) (by omega) hg hg) hg
  · exact hg
  · exact gok_mul hd mmul_lt (by omega) (gok_mul hd (by omega) (by omega) hg hg) hg
  · exact hg
  · exact hg
  · exact hg
  · exact hg
/-- the image of a set of cells -/
noncomputable def img (w h : Nat) (S : Nat → Bool) (m c : Nat) : Nat := imgF w h S m c (fb_ct S 64)
theorem img_t {m c b : Nat} : (img w h S m c).testBit b = true ↔ ∃ j, j < fb_ct S 64 ∧ c.testBit j = true ∧ mvx w h S m j = b := imgF_t _ b
theorem nat_x {a b : Nat} (h : ∀ j, a.testBit j = true ↔ b.testBit j = true) : a = b := Nat.eq_of_testBit_eq fun j => by
  cases x : a.testBit j <;> cases y : b.testBit j
  · rfl
  · rw [(h j).mpr y] at x; cases x
  · rw [(h j).mp x] at y; cases y
  · rfl
theorem img_mul (hd : jd w h r S) {a b c : Nat} (ha : a < 8) (hb : b < 8) (ga : gok w h S a = true) (gb : gok w h S b = true) : img w h S b (img w h S a c) = img w h S (mmul a b) c := nat_x fun j => by
  rw [img_t, img_t]
  constructor
  · rintro ⟨k, k1, k2, k3⟩
    obtain ⟨i, i1, i2, i3⟩ := img_t.mp k2
    exact ⟨i, i1, i2, by rw [← mvx_mul hd ha hb ga gb i1, i3]; exact k3⟩
  · rintro ⟨i, i1, i2, i3⟩
    exact ⟨mvx w h S a i, (mvx_lt hd ga i1).1, img_t.mpr ⟨i, i1, i2, rfl⟩, by rw [mvx_mul hd ha hb ga gb i1]; exact i3⟩
theorem img_0 (hd : jd w h r S) {c : Nat} (hc : c < 2 ^ fb_ct S 64) : img w h S 0 c = c := nat_x fun j => by
  rw [img_t]
  constructor
  · rintro ⟨i, i1, i2, i3⟩
    rw [mvx_0 hd i1] at i3
    rw [← i3]; exact i2
  · intro e
    have := tb_in hc e
    exact ⟨j, this, e, mvx_0 hd this⟩
theorem img_i (hd : jd w h r S) {m c c' : Nat} (hm : m < 8) (hg : gok w h S m = true) (hc : c < 2 ^ fb_ct S 64) (hc' : c' < 2 ^ fb_ct S 64) (e : img w h S m c = img w h S m c') : c = c' := by
  have mi := minv_m ⟨m, hm⟩
  have a := img_mul (c := c) hd hm mi.2.2 hg (gok_inv hd hm hg)
  have b := img_mul (c := c') hd hm mi.2.2 hg (gok_inv hd hm hg)
  rw [mi.1, img_0 hd hc] at a
  rw [mi.1, img_0 hd hc'] at b
  rw [← a, ← b, e]
/-- a motion makes the place q of the place i -/
def imP (w h : Nat) (S : Nat → Bool) (P : Nat) (f : Nat → plc) (m i q : Nat) : Prop := q < P ∧ (f q).2.1 = (f i).2.1 ∧ (f q).2.2.1 = img w h S m (f i).2.2.1
theorem imO_P {Z : Nat → Nat} (hpl : plg S Z P f) {m i q : Nat} : imO w h S P f m i = some q ↔ imP w h S P f m i q := by
  constructor
  · exact imO_s
  · rintro ⟨a, b, c⟩
    cases e : imO w h S P f m i with
    | none => exact absurd ⟨q, a, b, c⟩ (imO_n e)
    | some q' =>
      obtain ⟨a', b', c'⟩ := imO_s e
      have : q' = q := hpl.2 q' q a' a (by rw [b', b]) (by rw [c', c]; rfl)
      rw [this]
theorem imP_mul (hd : jd w h r S) {a b i q s : Nat} (ha : a < 8) (hb : b < 8) (ga : gok w h S a = true) (gb : gok w h S b = true) (h1 : imP w h S P f a i q) (h2 : imP w h S P f b q s) : imP w h S P f (mmul a b) i s := ⟨h2.1, by rw [h2.2.1, h1.2.1], by rw [h2.2.2, h1.2.2, img_mul hd ha hb ga gb]⟩
end MGR
