/-! ===== heights: a potential on the corners of a board without holes ===== -/
def bx (T : Nat → Bool) (x y : Nat) : Bool := (decide (1 ≤ x) && decide (x ≤ 8)) && (decide (1 ≤ y) && decide (y ≤ 8)) && T (8 * (y - 1) + (x - 1))
/-- what is gained round a cell: ho x y is the side between (x, y) and (x, y + 1), ve x y that between (x, y) and (x + 1, y), cells from 1 on -/
def cu (ho ve : Nat → Nat → Int) (c : Nat) : Int := ho (c % 8 + 1) (c / 8) + ve (c % 8 + 1) (c / 8 + 1) - ho (c % 8 + 1) (c / 8 + 1) - ve (c % 8) (c / 8 + 1)
def ag (S : Nat → Bool) (ho ve ho' ve' : Nat → Nat → Int) : Prop := ∀ c, c < 64 → S c = true → ho' (c % 8 + 1) (c / 8) = ho (c % 8 + 1) (c / 8) ∧ ve' (c % 8 + 1) (c / 8 + 1) = ve (c % 8 + 1) (c / 8 + 1) ∧ ho' (c % 8 + 1) (c / 8 + 1) = ho (c % 8 + 1) (c / 8 + 1) ∧ ve' (c % 8) (c / 8 + 1) = ve (c % 8) (c / 8 + 1)
def fS (S X : Nat → Bool) (c : Nat) : Prop := (c / 8 = 0 ∨ (S (c - 8) = false ∧ X (c - 8) = false)) ∨ (c / 8 = 7 ∨ (S (c + 8) = false ∧ X (c + 8) = false)) ∨ (c % 8 = 0 ∨ (S (c - 1) = false ∧ X (c - 1) = false)) ∨ (c % 8 = 7 ∨ (S (c + 1) = false ∧ X (c + 1) = false))
def Kf (S M : Nat → Bool) : Prop := ∀ X : Nat → Bool, (∀ c, X c = true → M c = true) → (∃ c, X c = true) → ∃ c, X c = true ∧ fS S X c
def up2 (f : Nat → Nat → Int) (a b : Nat) (v : Int) : Nat → Nat → Int := fun x y => if x = a ∧ y = b then v else f x y
theorem up2_e {f : Nat → Nat → Int} {a b : Nat} {v : Int} : up2 f a b v a b = v := if_pos ⟨rfl, rfl⟩
theorem up2_n {f : Nat → Nat → Int} {a b x y : Nat} {v : Int} (h : ¬ (x = a ∧ y = b)) : up2 f a b v x y = f x y := if_neg h
theorem ex_curl (S : Nat → Bool) : ∀ (n : Nat) (M : Nat → Bool) (ho ve : Nat → Nat → Int), fb_ct M 64 = n → (∀ c, M c = true → c < 64 ∧ S c = false) → Kf S M → (∀ c, c < 64 → S c = true → cu ho ve c = 0) → ∃ ho' ve', ag S ho ve ho' ve' ∧ ∀ c, c < 64 → (S c = true ∨ M c = true) → cu ho' ve' c = 0 := by
  intro n
  induction n with
  | zero =>
    intro M ho ve hn hM hK hS
    refine ⟨ho, ve, fun c _ _ => ⟨rfl, rfl, rfl, rfl⟩, fun c hc h => ?_⟩
    rcases h with h | h
    · exact hS c hc h
    · rw [fb_ct_zero.mp hn c hc] at h; cases h
  | succ n ih =>
    intro M ho ve hn hM hK hS
    have hne : ∃ c, M c = true := by
      obtain ⟨c, hc, h⟩ := fb_ct_pos.mp (show 0 < fb_ct M 64 by omega)
      exact ⟨c, h⟩
    obtain ⟨c, hc, hf⟩ := hK M (fun _ h => h) hne
    obtain ⟨c64, hcS⟩ := hM c hc
    obtain ⟨M', hM'⟩ : ∃ M' : Nat → Bool, M' = fun j => if j = c then false else M j := ⟨_, rfl⟩
    have M'c : ∀ j, M' j = true → M j = true ∧ j ≠ c := by
      intro j hj
      rw [hM'] at hj
      simp only at hj
      by_cases q : j = c
      · rw [if_pos q] at hj; cases hj
      · rw [if_neg q] at hj; exact ⟨hj, q⟩
    have M'i : ∀ j, M j = true → j ≠ c → M' j = true := by
      intro j hj q
      rw [hM']
      show (if j = c then false else M j) = true
      rw [if_neg q]; exact hj
    have cnt : fb_ct M' 64 = n := by
      have := fb_ct_upd M false (i := c) (n := 64) c64
      rw [hc] at this
      rw [hM']
      have e1 : (if true = true then 1 else 0 : Nat) = 1 := rfl
      have e2 : (if false = true then 1 else 0 : Nat) = 0 := rfl
      rw [e1, e2] at this
      omega
    obtain ⟨h1, v1, a1, z1⟩ := ih M' ho ve cnt (fun j hj => hM j (M'c j hj).1) (fun X hX hne => hK X (fun j hj => (M'c j (hX j hj)).1) hne) hS
    have other : ∀ d, d < 64 → (S d = true ∨ M d = true) → d ≠ c → cu h1 v1 d = 0 := by
      intro d hd h q
      refine z1 d hd (h.elim Or.inl (fun u => Or.inr (M'i d u q)))
    have notc : ∀ d, S d = true → d ≠ c := fun d hd q => by rw [q, hcS] at hd; cases hd
    unfold fS at hf
    rcases hf with hf | hf | hf | hf
    · -- upward
      refine ⟨up2 h1 (c % 8 + 1) (c / 8) (h1 (c % 8 + 1) (c / 8 + 1) + v1 (c % 8) (c / 8 + 1) - v1 (c % 8 + 1) (c / 8 + 1)), v1, ?_, ?_⟩
      · intro d hd hs
        have q := notc d hs
        have q2 : ¬ (c / 8 ≠ 0 ∧ d = c - 8) := fun u => by
          rcases hf with g | g
          · exact u.1 g
          · rw [← u.2, hs] at g; cases g.1
        obtain ⟨b1, b2, b3, b4⟩ := a1 d hd hs
        refine ⟨?_, b2, ?_, b4⟩
        · rw [up2_n (by omega)]; exact b1
        · rw [up2_n (by omega)]; exact b3
      · intro d hd h
        by_cases q : d = c
        · subst q
          unfold cu
          rw [up2_e, up2_n (by omega)]; omega
        · have q2 : ¬ (c / 8 ≠ 0 ∧ d = c - 8) := fun u => by
            rcases hf with g | g
            · exact u.1 g
            · rw [← u.2] at g
              rcases h with h | h
              · rw [h] at g; cases g.1
              · rw [h] at g; cases g.2
          have := other d hd h q
          unfold cu at this ⊢
          rw [up2_n (by omega), up2_n (by omega)]; exact this
    · -- downward
      refine ⟨up2 h1 (c % 8 + 1) (c / 8 + 1) (h1 (c % 8 + 1) (c / 8) + v1 (c % 8 + 1) (c / 8 + 1) - v1 (c % 8) (c / 8 + 1)), v1, ?_, ?_⟩
      · intro d hd hs
        have q := notc d hs
        have q2 : ¬ (c / 8 ≠ 7 ∧ d = c + 8) := fun u => by
          rcases hf with g | g
          · exact u.1 g
          · rw [← u.2, hs] at g; cases g.1
        obtain ⟨b1, b2, b3, b4⟩ := a1 d hd hs
        refine ⟨?_, b2, ?_, b4⟩
        · rw [up2_n (by omega)]; exact b1
        · rw [up2_n (by omega)]; exact b3
      · intro d hd h
        by_cases q : d = c
        · subst q
          unfold cu
          rw [up2_e, up2_n (by omega)]; omega
        · have q2 : ¬ (c / 8 ≠ 7 ∧ d = c + 8) := fun u => by
            rcases hf with g | g
            · exact u.1 g
            · rw [← u.2] at g
              rcases h with h | h
              · rw [h] at g; cases g.1
              · rw [h] at g; cases g.2
          have := other d hd h q
          unfold cu at this ⊢
          rw [up2_n (by omega), up2_n (by omega)]; exact this
    · -- to the left
      refine ⟨h1, up2 v1 (c % 8) (c / 8 + 1) (h1 (c % 8 + 1) (c / 8) + v1 (c % 8 + 1) (c / 8 + 1) - h1 (c % 8 + 1) (c / 8 + 1)), ?_, ?_⟩
      · intro d hd hs
        have q := notc d hs
        have q2 : ¬ (c % 8 ≠ 0 ∧ d = c - 1) := fun u => by
          rcases hf with g | g
          · exact u.1 g
          · rw [← u.2, hs] at g; cases g.1
        obtain ⟨b1, b2, b3, b4⟩ := a1 d hd hs
        refine ⟨b1, ?_, b3, ?_⟩
        · rw [up2_n (by omega)]; exact b2
        · rw [up2_n (by omega)]; exact b4
      · intro d hd h
        by_cases q : d = c
        · subst q
          unfold cu
          rw [up2_e, up2_n (by omega)]; omega
        · have q2 : ¬ (c % 8 ≠ 0 ∧ d = c - 1) := fun u => by
            rcases hf with g | g
            · exact u.1 g
            · rw [← u.2] at g
              rcases h with h | h
              · rw [h] at g; cases g.1
              · rw [h] at g; cases g.2
          have := other d hd h q
          unfold cu at this ⊢
          rw [up2_n (by omega), up2_n (by omega)]; exact this
    · -- to the right
      refine ⟨h1, up2 v1 (c % 8 + 1) (c / 8 + 1) (h1 (c % 8 + 1) (c / 8 + 1) + v1 (c % 8) (c / 8 + 1) - h1 (c % 8 + 1) (c / 8)), ?_, ?_⟩
      · intro d hd hs
        have q := notc d hs
        have q2 : ¬ (c % 8 ≠ 7 ∧ d = c + 1) := fun u => by
          rcases hf with g | g
          · exact u.1 g
          · rw [← u.2, hs] at g; cases g.1
        obtain ⟨b1, b2, b3, b4⟩ := a1 d hd hs
        refine ⟨b1, ?_, b3, ?_⟩
        · rw [up2_n (by omega)]; exact b2
        · rw [up2_n (by omega)]; exact b4
      · intro d hd h
        by_cases q : d = c
        · subst q
          unfold cu
          rw [up2_e, up2_n (by omega)]; omega
        · have q2 : ¬ (c % 8 ≠ 7 ∧ d = c + 1) := fun u => by
            rcases hf with g | g
            · exact u.1 g
            · rw [← u.2] at g
              rcases h with h | h
              · rw [h] at g; cases g.1
              · rw [h] at g; cases g.2
          have := other d hd h q
          unfold cu at this ⊢
          rw [up2_n (by omega), up2_n (by omega)]; exact this
/-! without holes, each bunch of missing cells has a free side -/
theorem no_hole {w h : Nat} {S : Nat → Bool} (hd : jd w h false S) (hg : gr_n w false (mi w h S) (rim w h false) = 0) : Kf S (mi w h S) := by
  obtain ⟨hw1, hw8, hh1, hh8, -, hre⟩ := hd
  intro X hX hne
  refine Classical.byContradiction fun hno => ?_
  have hno : ∀ c, X c = true → ¬ fS S X c := fun c hc hf => hno ⟨c, hc, hf⟩
  have mre : ∀ c, mi w h S c = true → c % 8 < w ∧ c / 8 < h ∧ S c = false := by
    intro c hc
    unfold mi re_S at hc
    simp only [Bool.and_eq_true, decide_eq_true_eq, Bool.not_eq_true'] at hc
    exact ⟨hc.1.1, hc.1.2, hc.2⟩
  -- the four sides of a cell of X
  have side : ∀ c, X c = true → ((c / 8 ≠ 0 ∧ (S (c - 8) = true ∨ X (c - 8) = true)) ∧ (c / 8 ≠ 7 ∧ (S (c + 8) = true ∨ X (c + 8) = true)) ∧ (c % 8 ≠ 0 ∧ (S (c - 1) = true ∨ X (c - 1) = true)) ∧ (c % 8 ≠ 7 ∧ (S (c + 1) = true ∨ X (c + 1) = true))) := by
    intro c hc
    have h1 := hno c hc
    unfold fS at h1
    have key : ∀ (A B : Bool), ¬ (A = false ∧ B = false) → A = true ∨ B = true := by
      intro A B; cases A <;> cases B <;> simp
    refine ⟨⟨fun e => h1 (Or.inl (Or.inl e)), key _ _ (fun e => h1 (Or.inl (Or.inr e)))⟩, ⟨fun e => h1 (Or.inr (Or.inl (Or.inl e))), key _ _ (fun e => h1 (Or.inr (Or.inl (Or.inr e))))⟩, ⟨fun e => h1 (Or.inr (Or.inr (Or.inl (Or.inl e)))), key _ _ (fun e => h1 (Or.inr (Or.inr (Or.inl (Or.inr e)))))⟩, ⟨fun e => h1 (Or.inr (Or.inr (Or.inr (Or.inl e)))), key _ _ (fun e => h1 (Or.inr (Or.inr (Or.inr (Or.inr e)))))⟩⟩
  have inre : ∀ c, S c = true ∨ X c = true → c % 8 < w ∧ c / 8 < h := by
    intro c hc
    rcases hc with hc | hc
    · have := hre c hc; omega
    · have := mre c (hX c hc); omega
  have closed : ∀ a b, X a = true → nb w false a b = true → mi w h S b = true → X b = true := by
    intro a b ha hn hb
    obtain ⟨s1, s2, s3, s4⟩ := side a ha
    have hbS := (mre b hb).2.2
    unfold nb at hn
    simp only [Bool.or_eq_true, Bool.and_eq_true, decide_eq_true_eq, Bool.false_and, Bool.false_eq_true, or_false, false_and] at hn
    rcases hn with ((hn | hn) | hn) | hn
    · rcases s2.2 with g | g
      · rw [← hn, hbS] at g; cases g
      · rw [hn]; exact g
    · have e : a - 8 = b := by omega
      rw [e] at s1
      rcases s1.2 with g | g
      · rw [hbS] at g; cases g
      · exact g
    · rcases s4.2 with g | g
      · rw [← hn.1, hbS] at g; cases g
      · rw [hn.1]; exact g
    · have e : a - 1 = b := by omega
      rw [e] at s3
      rcases s3.2 with g | g
      · rw [hbS] at g; cases g
      · exact g
  have norim : ∀ c, X c = true → rim w h false c = false := by
    intro c hc
    obtain ⟨s1, s2, s3, s4⟩ := side c hc
    have c0 := mre c (hX c hc)
    have r2 := inre (c + 8) s2.2
    have r4 := inre (c + 1) s4.2
    unfold rim
    simp only [Bool.not_false, Bool.true_and, Bool.or_eq_false_iff, decide_eq_false_iff_not]
    omega
  obtain ⟨c0, hc0⟩ := hne
  obtain ⟨l, hl, hmin⟩ := pk_least (fun j => rc (nb w false) (mi w h S) c0 j) ⟨c0, rc_r⟩
  have W0 := hX c0 hc0
  have inX : ∀ j, rc (nb w false) (mi w h S) c0 j → X j = true := fun j hj => hj X hc0 closed
  have Wl : mi w h S l = true := rc_w W0 hl
  have lead : rc_l (nb w false) (mi w h S) (rim w h false) l := by
    refine ⟨Wl, fun j hj => ?_, fun j hj => norim j (inX j (rc_t hl hj))⟩
    refine Classical.byContradiction fun q => hmin j (by omega) (rc_t hl hj)
  have l64 : l < 64 := by
    have := mre l Wl; omega
  unfold gr_n at hg
  have := fb_ct_zero.mp hg l l64
  rw [rc_kf] at this
  exact this lead
/-! the sides of a cover -/
def vl (dark crossed : Bool) : Int := if dark = true then (if crossed = true then -3 else 1) else (if crossed = true then 3 else -1)
def ho0 (S : Nat → Bool) (p : Nat → Nat) (x y : Nat) : Int := vl (decide ((x + y) % 2 = 0)) (bx S x y && Dp p (8 * (y - 1) + (x - 1)))
def ve0 (w : Nat) (S : Nat → Bool) (p : Nat → Nat) (x y : Nat) : Int := vl (decide ((x + y) % 2 = 1)) (bx S x y && Rp w false p (8 * (y - 1) + (x - 1)))
theorem bx_in {T : Nat → Bool} {x y : Nat} (hx : 1 ≤ x) (hx8 : x ≤ 8) (hy : 1 ≤ y) (hy8 : y ≤ 8) : bx T x y = T (8 * (y - 1) + (x - 1)) := by
  unfold bx
  rw [decide_eq_true hx, decide_eq_true hx8, decide_eq_true hy, decide_eq_true hy8]; rfl
theorem bx_c {T : Nat → Bool} {c : Nat} (hc : c < 64) : bx T (c % 8 + 1) (c / 8 + 1) = T c := by
  rw [bx_in (by omega) (by omega) (by omega) (by omega)]
  congr 1; omega
theorem bx_0 {T : Nat → Bool} {y : Nat} : bx T 0 y = false := by
  unfold bx
  rw [decide_eq_false (by omega : ¬ 1 ≤ 0)]; rfl
theorem bx_y {T : Nat → Bool} {x : Nat} : bx T x 0 = false := by
  unfold bx
  rw [decide_eq_false (by omega : ¬ 1 ≤ 0)]
  simp
theorem Rp_f {w j : Nat} {p : Nat → Nat} : Rp w false p j = (decide (j % 8 + 1 < w) && decide (p j = j + 1)) := by
  unfold Rp; simp
theorem cu_0 {w h : Nat} {S : Nat → Bool} {p : Nat → Nat} (hd : jd w h false S) (hp : pc w false S p) {c : Nat} (hc : c < 64) (hs : S c = true) : cu (ho0 S p) (ve0 w S p) c = 0 := by
  obtain ⟨hw1, hw8, hh1, hh8, -, hre⟩ := hd
  obtain ⟨p1, p2, p3⟩ := hp c hs
  have r0 := hre c hs
  have rp := hre _ p1
  have i1 : 8 * (c / 8 + 1 - 1) + (c % 8 + 1 - 1) = c := by omega
  -- what crosses the four sides
  have tp : (bx S (c % 8 + 1) (c / 8) && Dp p (8 * (c / 8 - 1) + (c % 8 + 1 - 1))) = decide (p c + 8 = c) := by
    by_cases q : c / 8 = 0
    · rw [q, bx_y, Bool.false_and]
      exact (decide_eq_false (by omega)).symm
    · have e : 8 * (c / 8 - 1) + (c % 8 + 1 - 1) = c - 8 := by omega
      rw [bx_in (by omega) (by omega) (by omega) (by omega), e]
      by_cases q2 : p c + 8 = c
      · have e2 : c - 8 = p c := by omega
        have e3 : p (p c) = p c + 8 := by omega
        rw [e2, p1, Dp_d e3, decide_eq_true q2]; rfl
      · rw [decide_eq_false q2]
        cases hs8 : S (c - 8)
        · rfl
        · cases hd8 : Dp p (c - 8)
          · rfl
          · exfalso
            unfold Dp at hd8
            have e3 := of_decide_eq_true hd8
            have e4 := (hp _ hs8).2.1
            have e5 : c - 8 + 8 = c := by omega
            rw [e3, e5] at e4
            omega
  have lf : (bx S (c % 8) (c / 8 + 1) && Rp w false p (8 * (c / 8 + 1 - 1) + (c % 8 - 1))) = decide (p c + 1 = c ∧ c % 8 ≠ 0) := by
    by_cases q : c % 8 = 0
    · rw [q, bx_0, Bool.false_and]
      exact (decide_eq_false (by omega)).symm
    · have e : 8 * (c / 8 + 1 - 1) + (c % 8 - 1) = c - 1 := by omega
      rw [bx_in (by omega) (by omega) (by omega) (by omega), e, Rp_f]
      by_cases q2 : p c + 1 = c
      · have e2 : c - 1 = p c := by omega
        have e3 : p (p c) = p c + 1 := by omega
        rw [e2, p1, decide_eq_true e3, decide_eq_true (by omega : p c % 8 + 1 < w), decide_eq_true ⟨q2, q⟩]; rfl
      · rw [decide_eq_false (p := p c + 1 = c ∧ c % 8 ≠ 0) (fun u => q2 u.1)]
        cases hs8 : S (c - 1)
        · rfl
        · by_cases q3 : p (c - 1) = c - 1 + 1
          · exfalso
            have e4 := (hp _ hs8).2.1
            have e5 : c - 1 + 1 = c := by omega
            rw [q3, e5] at e4
            omega
          · rw [decide_eq_false q3, Bool.and_false]; rfl
  have bt : (bx S (c % 8 + 1) (c / 8 + 1) && Dp p (8 * (c / 8 + 1 - 1) + (c % 8 + 1 - 1))) = decide (p c = c + 8) := by
    rw [bx_c hc, hs, i1]; rfl
  have rt : (bx S (c % 8 + 1) (c / 8 + 1) && Rp w false p (8 * (c / 8 + 1 - 1) + (c % 8 + 1 - 1))) = decide (c % 8 + 1 < w ∧ p c = c + 1) := by
    rw [bx_c hc, hs, i1, Rp_f, Bool.true_and, Bool.decide_and]
  unfold cu ho0 ve0
  rw [tp, lf, bt, rt]
  have one : (p c + 8 = c ∧ ¬ (p c + 1 = c ∧ c % 8 ≠ 0) ∧ ¬ p c = c + 8 ∧ ¬ (c % 8 + 1 < w ∧ p c = c + 1)) ∨ (¬ p c + 8 = c ∧ (p c + 1 = c ∧ c % 8 ≠ 0) ∧ ¬ p c = c + 8 ∧ ¬ (c % 8 + 1 < w ∧ p c = c + 1)) ∨ (¬ p c + 8 = c ∧ ¬ (p c + 1 = c ∧ c % 8 ≠ 0) ∧ p c = c + 8 ∧ ¬ (c % 8 + 1 < w ∧ p c = c + 1)) ∨ (¬ p c + 8 = c ∧ ¬ (p c + 1 = c ∧ c % 8 ≠ 0) ∧ ¬ p c = c + 8 ∧ (c % 8 + 1 < w ∧ p c = c + 1)) := by
    unfold nb at p3
    simp only [Bool.or_eq_true, Bool.and_eq_true, decide_eq_true_eq, Bool.false_and, Bool.false_eq_true, or_false, false_and] at p3
    omega
  have one2 : (decide (p c + 8 = c) = true ∧ decide (p c + 1 = c ∧ c % 8 ≠ 0) = false ∧ decide (p c = c + 8) = false ∧ decide (c % 8 + 1 < w ∧ p c = c + 1) = false) ∨ (decide (p c + 8 = c) = false ∧ decide (p c + 1 = c ∧ c % 8 ≠ 0) = true ∧ decide (p c = c + 8) = false ∧ decide (c % 8 + 1 < w ∧ p c = c + 1) = false) ∨ (decide (p c + 8 = c) = false ∧ decide (p c + 1 = c ∧ c % 8 ≠ 0) = false ∧ decide (p c = c + 8) = true ∧ decide (c % 8 + 1 < w ∧ p c = c + 1) = false) ∨ (decide (p c + 8 = c) = false ∧ decide (p c + 1 = c ∧ c % 8 ≠ 0) = false ∧ decide (p c = c + 8) = false ∧ decide (c % 8 + 1 < w ∧ p c = c + 1) = true) := by
    rcases one with ⟨a1, a2, a3, a4⟩ | ⟨a1, a2, a3, a4⟩ | ⟨a1, a2, a3, a4⟩ | ⟨a1, a2, a3, a4⟩
    · exact Or.inl ⟨decide_eq_true a1, decide_eq_false a2, decide_eq_false a3, decide_eq_false a4⟩
    · exact Or.inr (Or.inl ⟨decide_eq_false a1, decide_eq_true a2, decide_eq_false a3, decide_eq_false a4⟩)
    · exact Or.inr (Or.inr (Or.inl ⟨decide_eq_false a1, decide_eq_false a2, decide_eq_true a3, decide_eq_false a4⟩))
    · exact Or.inr (Or.inr (Or.inr ⟨decide_eq_false a1, decide_eq_false a2, decide_eq_false a3, decide_eq_true a4⟩))
  clear one tp lf bt rt
  generalize decide (p c + 8 = c) = T at one2 ⊢
  generalize decide (p c + 1 = c ∧ c % 8 ≠ 0) = L at one2 ⊢
  generalize decide (p c = c + 8) = D at one2 ⊢
  generalize decide (c % 8 + 1 < w ∧ p c = c + 1) = R at one2 ⊢
  have par : ((c % 8 + 1 + c / 8) % 2 = 0 ∧ (c % 8 + 1 + (c / 8 + 1)) % 2 = 1 ∧ (c % 8 + (c / 8 + 1)) % 2 = 0) ∨ ((c % 8 + 1 + c / 8) % 2 = 1 ∧ (c % 8 + 1 + (c / 8 + 1)) % 2 = 0 ∧ (c % 8 + (c / 8 + 1)) % 2 = 1) := by omega
  rcases par with ⟨b1, b2, b3⟩ | ⟨b1, b2, b3⟩ <;> rw [b1, b2, b3] <;> rcases one2 with ⟨rfl, rfl, rfl, rfl⟩ | ⟨rfl, rfl, rfl, rfl⟩ | ⟨rfl, rfl, rfl, rfl⟩ | ⟨rfl, rfl, rfl, rfl⟩ <;> decide
