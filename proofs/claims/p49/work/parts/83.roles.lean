/-! ===== cells that can stay free, their neighbours, the others ===== -/
def wo (S : Nat → Bool) (c : Nat) : Nat → Bool := fun x => S x && !decide (x = c)
section ROLES
variable {w h : Nat} {r : Bool} {S : Nat → Bool} {m : Nat → Nat} {Zd Zl F B : Nat → Bool}
/-- what the class's search leaves: a matching that is as large as can be, the cells that can stay free, and their neighbours -/
def rs (w : Nat) (r : Bool) (S : Nat → Bool) (m : Nat → Nat) (F B : Nat → Bool) : Prop := mg w r S m ∧ (∃ Zd Zl, ce w r S (fm S m) Zd Zl ∧ ∀ x, S x = true → dk x = true → m x = x → Zd x = true) ∧ (∃ n, (∀ x, F x = true ↔ Fs w r S m n x) ∧ ∀ x, Fs w r S m (n + 1) x → Fs w r S m n x) ∧ ∀ x, B x = true ↔ S x = true ∧ ∃ f, F f = true ∧ nb w r f x = true
theorem rs_1 (hd : jd w h r S) (hs : rs w r S m F B) : mm w r S (sz (fm S m)) := by
  obtain ⟨hm, ⟨Zd, Zl, hc, hal⟩, -, -⟩ := hs
  refine ce_max (fm_lm hd hm) hc (fun d hd64 hdS hdk => ?_)
  by_cases q : m d = d
  · exact Or.inl (hal d hdS hdk q)
  · obtain ⟨a1, a2, a3⟩ := hm d hdS
    have k := nb_dk hd hdS a1 (a3.resolve_left q)
    refine Or.inr ⟨m d, (hd.2.2.2.2.2 _ a1).1, ?_⟩
    have : S (m d) = true ∧ dk (m d) = false ∧ m (m d) ≠ m d := ⟨a1, by rw [k, hdk]; rfl, fun e => q (by rw [a2] at e; exact e.symm)⟩
    unfold fm
    rw [if_pos this]; exact a2
/-- no cell that can stay free has such a neighbour, and each neighbour has a mate that can stay free -/
theorem rs_B (hd : jd w h r S) (hs : rs w r S m F B) : (∀ b, B b = true → S b = true ∧ m b ≠ b ∧ F (m b) = true ∧ F b = false) ∧ (∀ x, F x = true → S x = true) ∧ (∀ x, S x = true → m x = x → F x = true) := by
  obtain ⟨hm, ⟨Zd, Zl, hc, hal⟩, ⟨n, hF, hcl⟩, hB⟩ := hs
  have hre := hd.2.2.2.2.2
  have zl : ∀ l, Zl l = true → S l = true ∧ dk l = false ∧ m l ≠ l ∧ Zd (m l) = true := by
    intro l hl
    obtain ⟨a1, a2, a3⟩ := hc.2.2 l hl
    obtain ⟨b1, b2, b3, b4⟩ := fm_lt hd hm a2
    rw [b4] at a3
    exact ⟨b1, b2, b3, a3⟩
  have p1 : ∀ n x, Fs w r S m n x → dk x = true → Zd x = true := by
    intro n
    induction n with
    | zero => intro x hx hk; exact hal x hx.1 hk hx.2
    | succ n ih =>
      intro x hx hk
      rcases hx with hx | ⟨b, f, b1, b2, b3, b4, b5⟩
      · exact ih x hx hk
      · have fS := Fs_S hm n f b2
        obtain ⟨m1, m2, m3⟩ := hm b b1
        have k1 := nb_dk hd fS b1 b3
        have k2 := nb_dk hd b1 m1 (m3.resolve_left b4)
        rw [b5, hk] at k2
        have kb : dk b = false := by cases e : dk b; rfl; rw [e] at k2; cases k2
        have kf : dk f = true := by cases e : dk f; rw [e, kb] at k1; cases k1; rfl
        have := (zl b (hc.2.1 f b (ih f b2 kf) (hre b b1).1 b1 b3)).2.2.2
        rw [b5] at this; exact this
  have p2 : ∀ n x, Fs w r S m n x → dk x = false → Zl x = false := by
    intro n
    induction n with
    | zero =>
      intro x hx hk
      cases e : Zl x
      · rfl
      · exact absurd hx.2 (zl x e).2.2.1
    | succ n ih =>
      intro x hx hk
      rcases hx with hx | ⟨b, f, b1, b2, b3, b4, b5⟩
      · exact ih x hx hk
      · have fS := Fs_S hm n f b2
        obtain ⟨m1, m2, m3⟩ := hm b b1
        have k1 := nb_dk hd fS b1 b3
        have k2 := nb_dk hd b1 m1 (m3.resolve_left b4)
        rw [b5, hk] at k2
        have kb : dk b = true := by cases e : dk b; rw [e] at k2; cases k2; rfl
        have kf : dk f = false := by cases e : dk f; rfl; rw [e, kb] at k1; cases k1
        cases e : Zl x
        · rfl
        · have z := (zl x e).2.2.2
          rw [← b5, m2] at z
          have z2 := hc.2.1 b f z (hre f fS).1 fS (nb_s b3)
          rw [ih f b2 kf] at z2; cases z2
  refine ⟨fun b hb => ?_, fun x hx => Fs_S hm n x ((hF x).mp hx), fun x hx he => ?_⟩
  · obtain ⟨bS, f, f1, f2⟩ := (hB b).mp hb
    have fn := (hF f).mp f1
    have fS := Fs_S hm n f fn
    have k1 := nb_dk hd fS bS f2
    have two : m b ≠ b ∧ F b = false := by
      cases kb : dk b
      · have kf : dk f = true := by cases e : dk f; rw [e, kb] at k1; cases k1; rfl
        have z := hc.2.1 f b (p1 n f fn kf) (hre b bS).1 bS f2
        refine ⟨(zl b z).2.2.1, ?_⟩
        cases e : F b
        · rfl
        · rw [p2 n b ((hF b).mp e) kb] at z; cases z
      · have kf : dk f = false := by cases e : dk f; rfl; rw [e, kb] at k1; cases k1
        have no : Zd b = true → False := fun z => by
          have z2 := hc.2.1 b f z (hre f fS).1 fS (nb_s f2)
          rw [p2 n f fn kf] at z2; cases z2
        refine ⟨fun e => no (hal b bS kb e), ?_⟩
        cases e : F b
        · rfl
        · exact (no (p1 n b ((hF b).mp e) kb)).elim
    refine ⟨bS, two.1, ?_, two.2⟩
    rw [hF]
    exact hcl _ (Or.inr ⟨b, f, bS, fn, f2, two.1, rfl⟩)
  · rw [hF]
    have key : ∀ n, Fs w r S m n x := by
      intro n
      induction n with
      | zero => exact ⟨hx, he⟩
      | succ n ih => exact Or.inl ih
    exact key n
theorem rs_3 (hd : jd w h r S) (hs : rs w r S m F B) : fb_ct (fun x => S x && decide (m x = x)) 64 + fb_ct B 64 = fb_ct F 64 := by
  obtain ⟨bp, fS, alF⟩ := rs_B hd hs
  obtain ⟨hm, -, ⟨n, hF, hcl⟩, hB⟩ := hs
  have hre := hd.2.2.2.2.2
  have from_ : ∀ n x, Fs w r S m n x → m x ≠ x → ∃ b f k, S b = true ∧ Fs w r S m k f ∧ k ≤ n ∧ nb w r f b = true ∧ m b ≠ b ∧ m b = x := by
    intro n
    induction n with
    | zero => intro x hx hne; exact absurd hx.2 hne
    | succ n ih =>
      intro x hx hne
      rcases hx with hx | ⟨b, f, b1, b2, b3, b4, b5⟩
      · obtain ⟨b, f, k, c1, c2, c3, c4⟩ := ih x hx hne
        exact ⟨b, f, k, c1, c2, by omega, c4⟩
      · exact ⟨b, f, n, b1, b2, by omega, b3, b4, b5⟩
  have up : ∀ n k x, Fs w r S m k x → k ≤ n → Fs w r S m n x := by
    intro n
    induction n with
    | zero => intro k x hx hk; have : k = 0 := by omega
              rw [this] at hx; exact hx
    | succ n ih =>
      intro k x hx hk
      by_cases q : k = n + 1
      · rw [q] at hx; exact hx
      · exact Or.inl (ih k x hx (by omega))
  have a : fb_ct (fun x => F x && !decide (m x = x)) 64 ≤ fb_ct B 64 := by
    refine cinj (g := m) (fun x hx hP => ?_) (fun x y hx hy hP hP' e => ?_)
    · simp only [Bool.and_eq_true, Bool.not_eq_true', decide_eq_false_iff_not] at hP
      obtain ⟨b, f, k, c1, c2, c3, c4, c5, c6⟩ := from_ n x ((hF x).mp hP.1) hP.2
      have e : m x = b := by rw [← c6]; exact (hm b c1).2.1
      rw [e]
      exact ⟨(hre b c1).1, (hB b).mpr ⟨c1, f, (hF f).mpr (up n k f c2 c3), c4⟩⟩
    · simp only [Bool.and_eq_true] at hP hP'
      rw [← (hm x (fS x hP.1)).2.1, e, (hm y (fS y hP'.1)).2.1]
  have b : fb_ct B 64 ≤ fb_ct (fun x => F x && !decide (m x = x)) 64 := by
    refine cinj (g := m) (fun x hx hP => ?_) (fun x y hx hy hP hP' e => ?_)
    · obtain ⟨c1, c2, c3, c4⟩ := bp x hP
      obtain ⟨d1, d2, d3⟩ := hm x c1
      refine ⟨(hre _ d1).1, ?_⟩
      show (F (m x) && !decide (m (m x) = m x)) = true
      rw [c3, decide_eq_false (fun e => c2 (by rw [d2] at e; exact e.symm))]; rfl
    · rw [← (hm x (bp x hP).1).2.1, e, (hm y (bp y hP').1).2.1]
  have c : fb_ct (fun x => (S x && decide (m x = x)) || (F x && !decide (m x = x))) 64 = fb_ct F 64 := fb_ct_cong (fun x _ => by
    by_cases q : m x = x
    · rw [decide_eq_true q]
      cases hs : S x
      · cases hf : F x
        · rfl
        · rw [fS x hf] at hs; cases hs
      · rw [alF x hs q]; rfl
    · rw [decide_eq_false q]; simp)
  rw [fb_ct_or (fun x _ => by cases S x <;> cases F x <;> cases decide (m x = x) <;> simp)] at c
  omega
end ROLES
