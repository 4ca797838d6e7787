/-! ===== heights: potentials of all covers at once ===== -/
def HH (ho ve : Nat → Nat → Int) (v : Nat) : Int := fb_si (fun i => ho (i + 1) 0) (v % 9) + fb_si (fun j => ve (v % 9) (j + 1)) (v / 9)
theorem HH_0 {ho ve : Nat → Nat → Int} : HH ho ve 0 = 0 := rfl
theorem HH_at {ho ve : Nat → Nat → Int} {x y : Nat} (hx : x ≤ 8) : HH ho ve (9 * y + x) = fb_si (fun i => ho (i + 1) 0) x + fb_si (fun j => ve x (j + 1)) y := by
  unfold HH
  have e1 : (9 * y + x) % 9 = x := by omega
  have e2 : (9 * y + x) / 9 = y := by omega
  rw [e1, e2]
theorem HH_v {ho ve : Nat → Nat → Int} {x y : Nat} (hx : x ≤ 8) : HH ho ve (9 * (y + 1) + x) - HH ho ve (9 * y + x) = ve x (y + 1) := by
  rw [HH_at hx, HH_at hx]
  show _ + (fb_si (fun j => ve x (j + 1)) y + ve x (y + 1)) - _ = _
  omega
theorem HH_h {ho ve : Nat → Nat → Int} {w h x : Nat} (hx : x < w) (hw : w ≤ 8) (hc : ∀ c, c % 8 < w → c / 8 < h → cu ho ve c = 0) : ∀ y, y ≤ h → HH ho ve (9 * y + (x + 1)) - HH ho ve (9 * y + x) = ho (x + 1) y
  | 0, _ => by
    rw [HH_at (by omega), HH_at (by omega)]
    show (fb_si (fun i => ho (i + 1) 0) x + ho (x + 1) 0) + 0 - (_ + 0) = _
    omega
  | y + 1, hy => by
    have ih := HH_h hx hw hc y (by omega)
    have v1 := HH_v (ho := ho) (ve := ve) (x := x) (y := y) (by omega)
    have v2 := HH_v (ho := ho) (ve := ve) (x := x + 1) (y := y) (by omega)
    have c0 := hc (8 * y + x) (by omega) (by omega)
    unfold cu at c0
    have e1 : (8 * y + x) % 8 = x := by omega
    have e2 : (8 * y + x) / 8 = y := by omega
    rw [e1, e2] at c0
    omega
/-- the sides of the cells are as the cover has them -/
def pot (w : Nat) (S : Nat → Bool) (p : Nat → Nat) (H : Nat → Int) : Prop := (∀ x y, 1 ≤ x → x ≤ 8 → y ≤ 8 → (bx S x y = true ∨ bx S x (y + 1) = true) → H (9 * y + x) - H (9 * y + (x - 1)) = ho0 S p x y) ∧ (∀ x y, x ≤ 8 → 1 ≤ y → y ≤ 8 → (bx S x y = true ∨ bx S (x + 1) y = true) → H (9 * y + x) - H (9 * (y - 1) + x) = ve0 w S p x y)
def fam (w h : Nat) (S : Nat → Bool) (G : (Nat → Nat) → Nat → Int) : Prop := (∀ p, pc w false S p → pot w S p (G p) ∧ G p 0 = 0) ∧ ∀ p q, pc w false S p → pc w false S q → (∀ x y, x < w → y ≤ h → (G p (9 * y + (x + 1)) - G q (9 * y + (x + 1))) - (G p (9 * y + x) - G q (9 * y + x)) = ho0 S p (x + 1) y - ho0 S q (x + 1) y) ∧ (∀ x y, x ≤ w → y < h → (G p (9 * (y + 1) + x) - G q (9 * (y + 1) + x)) - (G p (9 * y + x) - G q (9 * y + x)) = ve0 w S p x (y + 1) - ve0 w S q x (y + 1))
theorem bx_rect {w h : Nat} {S : Nat → Bool} (hre : cv_re w h S) {x y : Nat} (hb : bx S x y = true) : 1 ≤ x ∧ x ≤ w ∧ 1 ≤ y ∧ y ≤ h ∧ x ≤ 8 ∧ y ≤ 8 ∧ S (8 * (y - 1) + (x - 1)) = true := by
  unfold bx at hb
  simp only [Bool.and_eq_true, decide_eq_true_eq] at hb
  have := hre _ hb.2
  have e1 : (8 * (y - 1) + (x - 1)) % 8 = x - 1 := by omega
  have e2 : (8 * (y - 1) + (x - 1)) / 8 = y - 1 := by omega
  rw [e1, e2] at this
  exact ⟨hb.1.1.1, by omega, hb.1.2.1, by omega, hb.1.1.2, hb.1.2.2, hb.2⟩
/-- a side that a piece lies across has cells on both hands -/
theorem cr_h {w h : Nat} {S : Nat → Bool} {p : Nat → Nat} (hd : jd w h false S) (hp : pc w false S p) {x y : Nat} (h1 : (bx S x y && Dp p (8 * (y - 1) + (x - 1))) = true) : bx S x y = true ∧ bx S x (y + 1) = true := by
  rw [Bool.and_eq_true] at h1
  have b := bx_rect hd.2.2.2.2.2 h1.1
  have hh8 := hd.2.2.2.1
  unfold Dp at h1
  have e := of_decide_eq_true h1.2
  have p1 := (hp _ b.2.2.2.2.2.2).1
  rw [e] at p1
  have r := hd.2.2.2.2.2 _ p1
  refine ⟨h1.1, ?_⟩
  rw [bx_in (by omega) (by omega) (by omega) (by omega)]
  have e2 : 8 * (y + 1 - 1) + (x - 1) = 8 * (y - 1) + (x - 1) + 8 := by omega
  rw [e2]; exact p1
theorem cr_v {w h : Nat} {S : Nat → Bool} {p : Nat → Nat} (hd : jd w h false S) (hp : pc w false S p) {x y : Nat} (h1 : (bx S x y && Rp w false p (8 * (y - 1) + (x - 1))) = true) : bx S x y = true ∧ bx S (x + 1) y = true := by
  rw [Bool.and_eq_true] at h1
  have b := bx_rect hd.2.2.2.2.2 h1.1
  have hw8 := hd.2.1
  rw [Rp_f] at h1
  simp only [Bool.and_eq_true, decide_eq_true_eq] at h1
  have p1 := (hp _ b.2.2.2.2.2.2).1
  rw [h1.2.2] at p1
  refine ⟨h1.1, ?_⟩
  have e3 : (8 * (y - 1) + (x - 1)) % 8 = x - 1 := by omega
  rw [bx_in (by omega) (by omega) (by omega) (by omega)]
  have e2 : 8 * (y - 1) + (x + 1 - 1) = 8 * (y - 1) + (x - 1) + 1 := by omega
  rw [e2]; exact p1
theorem ho_eq {w h : Nat} {S : Nat → Bool} {p q : Nat → Nat} (hd : jd w h false S) (hp : pc w false S p) (hq : pc w false S q) {x y : Nat} (h1 : ¬ (bx S x y = true ∧ bx S x (y + 1) = true)) : ho0 S p x y = ho0 S q x y := by
  unfold ho0
  congr 1
  have a : (bx S x y && Dp p (8 * (y - 1) + (x - 1))) = false := by
    cases e : (bx S x y && Dp p (8 * (y - 1) + (x - 1)))
    · rfl
    · exact absurd (cr_h hd hp e) h1
  have b : (bx S x y && Dp q (8 * (y - 1) + (x - 1))) = false := by
    cases e : (bx S x y && Dp q (8 * (y - 1) + (x - 1)))
    · rfl
    · exact absurd (cr_h hd hq e) h1
  rw [a, b]
theorem ve_eq {w h : Nat} {S : Nat → Bool} {p q : Nat → Nat} (hd : jd w h false S) (hp : pc w false S p) (hq : pc w false S q) {x y : Nat} (h1 : ¬ (bx S x y = true ∧ bx S (x + 1) y = true)) : ve0 w S p x y = ve0 w S q x y := by
  unfold ve0
  congr 1
  have a : (bx S x y && Rp w false p (8 * (y - 1) + (x - 1))) = false := by
    cases e : (bx S x y && Rp w false p (8 * (y - 1) + (x - 1)))
    · rfl
    · exact absurd (cr_v hd hp e) h1
  have b : (bx S x y && Rp w false q (8 * (y - 1) + (x - 1))) = false := by
    cases e : (bx S x y && Rp w false q (8 * (y - 1) + (x - 1)))
    · rfl
    · exact absurd (cr_v hd hq e) h1
  rw [a, b]
theorem fam_ex {w h : Nat} {S : Nat → Bool} (hd : jd w h false S) (hg : gr_n w false (mi w h S) (rim w h false) = 0) : ∃ G, fam w h S G := by
  by_cases hne : ∃ p0, pc w false S p0
  · obtain ⟨p0, hp0⟩ := hne
    have hK := no_hole hd hg
    have hd0 := hd
    obtain ⟨hw1, hw8, hh1, hh8, -, hre⟩ := hd
    have mre : ∀ c, mi w h S c = true → c % 8 < w ∧ c / 8 < h ∧ S c = false := by
      intro c hc
      unfold mi re_S at hc
      simp only [Bool.and_eq_true, decide_eq_true_eq, Bool.not_eq_true'] at hc
      exact ⟨hc.1.1, hc.1.2, hc.2⟩
    obtain ⟨ho, ve, hag, hz⟩ := ex_curl S _ (mi w h S) (ho0 S p0) (ve0 w S p0) rfl (fun c hc => by have := mre c hc; exact ⟨by omega, this.2.2⟩) hK (fun c hc hs => cu_0 hd0 hp0 hc hs)
    obtain ⟨eo, heo⟩ : ∃ eo : (Nat → Nat) → Nat → Nat → Int, eo = fun p x y => ho x y + (ho0 S p x y - ho0 S p0 x y) := ⟨_, rfl⟩
    obtain ⟨ev, hev⟩ : ∃ ev : (Nat → Nat) → Nat → Nat → Int, ev = fun p x y => ve x y + (ve0 w S p x y - ve0 w S p0 x y) := ⟨_, rfl⟩
    -- no curl at all
    have zero : ∀ p, pc w false S p → ∀ c, c % 8 < w → c / 8 < h → cu (eo p) (ev p) c = 0 := by
      intro p hp c hc1 hc2
      have c64 : c < 64 := by omega
      cases hs : S c
      · have z := hz c c64 (Or.inr (by unfold mi; rw [hs, re_t hc1 hc2]; rfl))
        have bc : ¬ bx S (c % 8 + 1) (c / 8 + 1) = true := by rw [bx_c c64, hs]; exact Bool.false_ne_true
        have t1 := ho_eq (x := c % 8 + 1) (y := c / 8) hd0 hp hp0 (fun u => bc u.2)
        have t2 := ve_eq (x := c % 8 + 1) (y := c / 8 + 1) hd0 hp hp0 (fun u => bc u.1)
        have t3 := ho_eq (x := c % 8 + 1) (y := c / 8 + 1) hd0 hp hp0 (fun u => bc u.1)
        have t4 := ve_eq (x := c % 8) (y := c / 8 + 1) hd0 hp hp0 (fun u => bc u.2)
        unfold cu at z ⊢
        rw [heo, hev]
        dsimp only
        omega
      · have z := cu_0 hd0 hp c64 hs
        obtain ⟨t1, t2, t3, t4⟩ := hag c c64 hs
        unfold cu at z ⊢
        rw [heo, hev]
        dsimp only
        omega
    have rectE : ∀ x y, bx S x y = true → 1 ≤ x ∧ x ≤ w ∧ 1 ≤ y ∧ y ≤ h := fun x y hb => by
      have := bx_rect hre hb; omega
    refine ⟨fun p => HH (eo p) (ev p), fun p hp => ⟨⟨fun x y hx1 hx8 hy hb => ?_, fun x y hx8 hy1 hy hb => ?_⟩, HH_0⟩, fun p q hp hq => ⟨fun x y hx hy => ?_, fun x y hx hy => ?_⟩⟩
    · -- sides across
      have rx : x ≤ w ∧ y ≤ h := by
        rcases hb with hb | hb
        · have := rectE _ _ hb; omega
        · have := rectE _ _ hb; omega
      obtain ⟨x', rfl⟩ : ∃ x', x = x' + 1 := ⟨x - 1, by omega⟩
      have e := HH_h (ho := eo p) (ve := ev p) (w := w) (h := h) (x := x') (by omega) hw8 (zero p hp) y rx.2
      have e0 : x' + 1 - 1 = x' := by omega
      rw [e0, e, heo]
      dsimp only
      have same : ho (x' + 1) y = ho0 S p0 (x' + 1) y := by
        rcases hb with hb | hb
        · have r := rectE _ _ hb
          have hb2 := bx_rect hre hb
          have e3 : 8 * (y - 1) + (x' + 1 - 1) = 8 * (y - 1) + x' := by omega
          rw [e3] at hb2
          have g := (hag (8 * (y - 1) + x') (by omega) hb2.2.2.2.2.2.2).2.2.1
          have e1 : (8 * (y - 1) + x') % 8 = x' := by omega
          have e2 : (8 * (y - 1) + x') / 8 + 1 = y := by omega
          rw [e1, e2] at g; exact g
        · have r := rectE _ _ hb
          have hb2 := bx_rect hre hb
          have e3 : 8 * (y + 1 - 1) + (x' + 1 - 1) = 8 * y + x' := by omega
          rw [e3] at hb2
          have g := (hag (8 * y + x') (by omega) hb2.2.2.2.2.2.2).1
          have e1 : (8 * y + x') % 8 = x' := by omega
          have e2 : (8 * y + x') / 8 = y := by omega
          rw [e1, e2] at g; exact g
      omega
    · have rx : x ≤ w ∧ y ≤ h := by
        rcases hb with hb | hb
        · have := rectE _ _ hb; omega
        · have := rectE _ _ hb; omega
      obtain ⟨y', rfl⟩ : ∃ y', y = y' + 1 := ⟨y - 1, by omega⟩
      have e := HH_v (ho := eo p) (ve := ev p) (x := x) (y := y') hx8
      have e0 : y' + 1 - 1 = y' := by omega
      rw [e0, e, hev]
      dsimp only
      have same : ve x (y' + 1) = ve0 w S p0 x (y' + 1) := by
        rcases hb with hb | hb
        · have r := rectE _ _ hb
          have hb2 := bx_rect hre hb
          have e3 : 8 * (y' + 1 - 1) + (x - 1) = 8 * y' + (x - 1) := by omega
          rw [e3] at hb2
          have g := (hag (8 * y' + (x - 1)) (by omega) hb2.2.2.2.2.2.2).2.1
          have e1 : (8 * y' + (x - 1)) % 8 + 1 = x := by omega
          have e2 : (8 * y' + (x - 1)) / 8 = y' := by omega
          rw [e1, e2] at g; exact g
        · have r := rectE _ _ hb
          have hb2 := bx_rect hre hb
          have e3 : 8 * (y' + 1 - 1) + (x + 1 - 1) = 8 * y' + x := by omega
          rw [e3] at hb2
          have g := (hag (8 * y' + x) (by omega) hb2.2.2.2.2.2.2).2.2.2
          have e1 : (8 * y' + x) % 8 = x := by omega
          have e2 : (8 * y' + x) / 8 = y' := by omega
          rw [e1, e2] at g; exact g
      omega
    · have e1 := HH_h (ho := eo p) (ve := ev p) hx hw8 (zero p hp) y hy
      have e2 := HH_h (ho := eo q) (ve := ev q) hx hw8 (zero q hq) y hy
      rw [heo] at e1 e2
      dsimp only at e1 e2
      rw [heo]
      dsimp only
      omega
    · have e1 := HH_v (ho := eo p) (ve := ev p) (x := x) (y := y) (by omega)
      have e2 := HH_v (ho := eo q) (ve := ev q) (x := x) (y := y) (by omega)
      rw [hev] at e1 e2
      dsimp only at e1 e2
      rw [hev]
      dsimp only
      omega
  · exact ⟨fun _ _ => 0, fun p hp => absurd ⟨p, hp⟩ hne, fun p q hp _ => absurd ⟨p, hp⟩ hne⟩
