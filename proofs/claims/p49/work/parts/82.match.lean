/-! ===== pieces put, as many as can be: matchings between light and dark cells ===== -/
theorem cinj {N : Nat} {P R : Nat → Bool} {g : Nat → Nat} : ∀ {n : Nat}, (∀ i, i < n → P i = true → g i < N ∧ R (g i) = true) → (∀ i j, i < n → j < n → P i = true → P j = true → g i = g j → i = j) → fb_ct P n ≤ fb_ct R N := by
  intro n
  induction n generalizing R with
  | zero => intro _ _; exact Nat.zero_le _
  | succ n ih =>
    intro h1 h2
    rw [fb_ct_succ]
    cases hp : P n
    · have := ih (R := R) (fun i hi hP => h1 i (by omega) hP) (fun i j hi hj a b e => h2 i j (by omega) (by omega) a b e)
      show _ + 0 ≤ _
      omega
    · obtain ⟨a1, a2⟩ := h1 n (by omega) hp
      have := ih (R := fun k => if k = g n then false else R k) (fun i hi hP => by
        obtain ⟨b1, b2⟩ := h1 i (by omega) hP
        refine ⟨b1, ?_⟩
        show (if g i = g n then false else R (g i)) = true
        rw [if_neg (fun e => by have := h2 i n (by omega) (by omega) hP hp e; omega)]; exact b2) (fun i j hi hj a b e => h2 i j (by omega) (by omega) a b e)
      have u := fb_ct_upd R false (i := g n) (n := N) a1
      rw [a2] at u
      have e1 : (if true = true then 1 else 0 : Nat) = 1 := rfl
      have e2 : (if false = true then 1 else 0 : Nat) = 0 := rfl
      rw [e1, e2] at u
      show _ + 1 ≤ _
      omega
theorem ct_ex {P : Nat → Bool} {n k : Nat} (hk : k < n) (hp : P k = true) : fb_ct (fun j => P j && !decide (j = k)) n + 1 = fb_ct P n := by
  have u := fb_ct_upd P false (i := k) (n := n) hk
  rw [hp] at u
  have e1 : (if true = true then 1 else 0 : Nat) = 1 := rfl
  have e2 : (if false = true then 1 else 0 : Nat) = 0 := rfl
  rw [e1, e2] at u
  have e3 : fb_ct (fun j => P j && !decide (j = k)) n = fb_ct (fun j => if j = k then false else P j) n := fb_ct_cong (fun j _ => by
    by_cases q : j = k
    · rw [if_pos q, decide_eq_true q]; simp
    · rw [if_neg q, decide_eq_false q]; simp)
  omega
section MATCH
variable {w h : Nat} {r : Bool} {S T : Nat → Bool}
/-- a matching: for each light cell its dark one, or 64 -/
def lm (w : Nat) (r : Bool) (T : Nat → Bool) (f : Nat → Nat) : Prop := (∀ l, l < 64 → f l < 64 → T l = true ∧ dk l = false ∧ T (f l) = true ∧ dk (f l) = true ∧ nb w r (f l) l = true) ∧ ∀ l l', l < 64 → l' < 64 → f l < 64 → f l = f l' → l = l'
def sz (f : Nat → Nat) : Nat := fb_ct (fun l => decide (f l < 64)) 64
def mm (w : Nat) (r : Bool) (T : Nat → Bool) (k : Nat) : Prop := (∃ f, lm w r T f ∧ sz f = k) ∧ ∀ f, lm w r T f → sz f ≤ k
/-- a set that has a cell of each two neighbours is as large as any matching -/
theorem vc {f : Nat → Nat} {C : Nat → Bool} (hf : lm w r T f) (hC : ∀ l d, l < 64 → d < 64 → T l = true → T d = true → dk l = false → dk d = true → nb w r d l = true → C l = true ∨ C d = true) : sz f ≤ fb_ct C 64 := by
  refine cinj (g := fun l => if C l = true then l else f l) (fun l hl hP => ?_) (fun l l' hl hl' hP hP' e => ?_)
  · have hP := of_decide_eq_true hP
    obtain ⟨a1, a2, a3, a4, a5⟩ := hf.1 l hl hP
    show (if C l = true then l else f l) < 64 ∧ C (if C l = true then l else f l) = true
    by_cases q : C l = true
    · rw [if_pos q]; exact ⟨hl, q⟩
    · rw [if_neg q]
      exact ⟨hP, (hC l (f l) hl hP a1 a3 a2 a4 a5).resolve_left q⟩
  · have hP := of_decide_eq_true hP
    have hP' := of_decide_eq_true hP'
    have a := hf.1 l hl hP
    have a' := hf.1 l' hl' hP'
    have e : (if C l = true then l else f l) = (if C l' = true then l' else f l') := e
    by_cases q : C l = true
    · rw [if_pos q] at e
      by_cases q' : C l' = true
      · rw [if_pos q'] at e; exact e
      · rw [if_neg q'] at e
        rw [e, a'.2.2.2.1] at a; cases a.2.1
    · rw [if_neg q] at e
      by_cases q' : C l' = true
      · rw [if_pos q'] at e
        rw [← e, a.2.2.2.1] at a'; cases a'.2.1
      · rw [if_neg q'] at e
        exact hf.2 l l' hl hl' hP e
/-- what shows that a matching is as large as can be: dark cells that were not matched, and all that is reached from them -/
def ce (w : Nat) (r : Bool) (T : Nat → Bool) (f : Nat → Nat) (Zd Zl : Nat → Bool) : Prop := (∀ d, Zd d = true → d < 64 ∧ T d = true ∧ dk d = true) ∧ (∀ d l, Zd d = true → l < 64 → T l = true → nb w r d l = true → Zl l = true) ∧ ∀ l, Zl l = true → l < 64 ∧ f l < 64 ∧ Zd (f l) = true
theorem ce_max {f : Nat → Nat} {Zd Zl : Nat → Bool} (hf : lm w r T f) (hc : ce w r T f Zd Zl) (hfull : ∀ d, d < 64 → T d = true → dk d = true → Zd d = true ∨ ∃ l, l < 64 ∧ f l = d) : mm w r T (sz f) := by
  refine ⟨⟨f, hf, rfl⟩, fun g hg => ?_⟩
  have h1 : sz g ≤ fb_ct (fun j => Zl j || (decide (j < 64) && T j && dk j && !Zd j)) 64 := by
    refine vc hg (fun l d hl hd tl td kl kd hn => ?_)
    cases q : Zd d
    · refine Or.inr ?_
      rw [decide_eq_true hd, td, kd]; simp
    · refine Or.inl ?_
      rw [hc.2.1 d l q hl tl hn]; rfl
  refine Nat.le_trans h1 ?_
  refine cinj (g := fun j => if Zl j = true then j else @dite Nat (∃ l, l < 64 ∧ f l = j) (Classical.propDecidable _) (fun e => Classical.choose e) (fun _ => 64)) (fun j hj hP => ?_) (fun j j' hj hj' hP hP' e => ?_)
  · by_cases q : Zl j = true
    · rw [if_pos q]
      exact ⟨hj, decide_eq_true (hc.2.2 j q).2.1⟩
    · rw [if_neg q]
      have q : Zl j = false := by simpa using q
      rw [q, Bool.false_or] at hP
      simp only [Bool.and_eq_true, decide_eq_true_eq, Bool.not_eq_true'] at hP
      have ex : ∃ l, l < 64 ∧ f l = j := (hfull j hj hP.1.1.2 hP.1.2).resolve_left (fun e => by rw [hP.2] at e; cases e)
      rw [dif_pos ex]
      obtain ⟨a1, a2⟩ := Classical.choose_spec ex
      exact ⟨a1, decide_eq_true (by rw [a2]; exact hj)⟩
  · have key : ∀ j, j < 64 → (Zl j || (decide (j < 64) && T j && dk j && !Zd j)) = true → ¬ Zl j = true → ∃ ex : (∃ l, l < 64 ∧ f l = j), Zd j = false := by
      intro j hj hP q
      have q : Zl j = false := by simpa using q
      rw [q, Bool.false_or] at hP
      simp only [Bool.and_eq_true, decide_eq_true_eq, Bool.not_eq_true'] at hP
      exact ⟨(hfull j hj hP.1.1.2 hP.1.2).resolve_left (fun e => by rw [hP.2] at e; cases e), hP.2⟩
    by_cases q : Zl j = true
    · rw [if_pos q] at e
      by_cases q' : Zl j' = true
      · rw [if_pos q'] at e; exact e
      · rw [if_neg q'] at e
        obtain ⟨ex, hz⟩ := key j' hj' hP' q'
        rw [dif_pos ex] at e
        have a2 := (Classical.choose_spec ex).2
        rw [← e] at a2
        have := (hc.2.2 j q).2.2
        rw [a2, hz] at this; cases this
    · rw [if_neg q] at e
      obtain ⟨ex, hz⟩ := key j hj hP q
      rw [dif_pos ex] at e
      have a2 := (Classical.choose_spec ex).2
      by_cases q' : Zl j' = true
      · rw [if_pos q'] at e
        rw [e] at a2
        have := (hc.2.2 j' q').2.2
        rw [a2, hz] at this; cases this
      · rw [if_neg q'] at e
        obtain ⟨ex', hz'⟩ := key j' hj' hP' q'
        rw [dif_pos ex'] at e
        have a2' := (Classical.choose_spec ex').2
        rw [e] at a2
        exact a2.symm.trans a2'
/-! both sides at once: a cell without a mate is its own -/
def mg (w : Nat) (r : Bool) (S : Nat → Bool) (m : Nat → Nat) : Prop := ∀ x, S x = true → S (m x) = true ∧ m (m x) = x ∧ (m x = x ∨ nb w r x (m x) = true)
def fm (S : Nat → Bool) (m : Nat → Nat) (l : Nat) : Nat := if S l = true ∧ dk l = false ∧ m l ≠ l then m l else 64
theorem nb_dk (hd : jd w h r S) {a b : Nat} (ha : S a = true) (hb : S b = true) (hn : nb w r a b = true) : dk b = !dk a := by
  obtain ⟨hw1, hw8, hh1, hh8, hr, hre⟩ := hd
  have ra := hre a ha
  have rb := hre b hb
  have key : (b % 8 + b / 8) % 2 = 1 - (a % 8 + a / 8) % 2 := by
    unfold nb at hn
    simp only [Bool.or_eq_true, Bool.and_eq_true, decide_eq_true_eq] at hn
    rcases hn with ((((hn | hn) | hn) | hn) | hn) | hn
    · omega
    · omega
    · omega
    · omega
    · have h1 := hr hn.1.1
      have h2 : b % 8 = w - 1 := by omega
      have h3 : b / 8 = a / 8 := by omega
      rw [h2, h3]; omega
    · have h1 := hr hn.1.1
      have h2 : a % 8 = w - 1 := by omega
      have h3 : a / 8 = b / 8 := by omega
      rw [h2, h3]; omega
  unfold dk
  by_cases q : (a % 8 + a / 8) % 2 = 0
  · rw [decide_eq_true q, decide_eq_false (by omega)]; rfl
  · rw [decide_eq_false q, decide_eq_true (by omega)]; rfl
theorem nb_i {a : Nat} (hw : 2 ≤ w ∨ r = false) : nb w r a a = false := by
  cases e : nb w r a a
  · rfl
  · unfold nb at e
    simp only [Bool.or_eq_true, Bool.and_eq_true, decide_eq_true_eq] at e
    rcases e with ((((e | e) | e) | e) | e) | e
    · omega
    · omega
    · omega
    · omega
    · rcases hw with hw | hw
      · omega
      · rw [hw] at e; cases e.1.1
    · rcases hw with hw | hw
      · omega
      · rw [hw] at e; cases e.1.1
theorem fm_lt {m : Nat → Nat} (hd : jd w h r S) (hm : mg w r S m) {l : Nat} (hl : fm S m l < 64) : S l = true ∧ dk l = false ∧ m l ≠ l ∧ fm S m l = m l := by
  unfold fm at hl ⊢
  by_cases q : S l = true ∧ dk l = false ∧ m l ≠ l
  · rw [if_pos q]; exact ⟨q.1, q.2.1, q.2.2, rfl⟩
  · rw [if_neg q] at hl; omega
theorem fm_lm {m : Nat → Nat} (hd : jd w h r S) (hm : mg w r S m) : lm w r S (fm S m) := by
  refine ⟨fun l hl hf => ?_, fun l l' hl hl' hf e => ?_⟩
  · obtain ⟨a1, a2, a3, a4⟩ := fm_lt hd hm hf
    obtain ⟨b1, b2, b3⟩ := hm l a1
    have hn := b3.resolve_left a3
    have := nb_dk hd a1 b1 hn
    rw [a4]
    exact ⟨a1, a2, b1, by rw [this, a2]; rfl, nb_s hn⟩
  · obtain ⟨a1, a2, a3, a4⟩ := fm_lt hd hm hf
    rw [e] at hf
    obtain ⟨b1, b2, b3, b4⟩ := fm_lt hd hm hf
    rw [a4, b4] at e
    have c1 := (hm l a1).2.1
    have c2 := (hm l' b1).2.1
    rw [e] at c1
    rw [← c1, c2]
/-- how many are alone: all less twice the matched light ones -/
theorem al_ct {m : Nat → Nat} (hd : jd w h r S) (hm : mg w r S m) : fb_ct (fun x => S x && decide (m x = x)) 64 + 2 * sz (fm S m) = fb_ct S 64 := by
  have hre := hd.2.2.2.2.2
  have e0 : sz (fm S m) = fb_ct (fun x => S x && !dk x && !decide (m x = x)) 64 := by
    unfold sz
    refine fb_ct_cong (fun l hl => ?_)
    by_cases q : S l = true ∧ dk l = false ∧ m l ≠ l
    · have : fm S m l = m l := if_pos q
      rw [this, decide_eq_true (hre _ (hm l q.1).1).1, q.1, q.2.1, decide_eq_false q.2.2]; rfl
    · have : fm S m l = 64 := if_neg q
      rw [this, decide_eq_false (by omega)]
      cases hs : S l
      · rfl
      · cases hk : dk l
        · by_cases q2 : m l = l
          · rw [decide_eq_true q2]; rfl
          · exact absurd ⟨hs, hk, q2⟩ q
        · rfl
  have e1 : fb_ct (fun x => S x && !dk x && !decide (m x = x)) 64 = fb_ct (fun x => S x && dk x && !decide (m x = x)) 64 := by
    have half : ∀ c : Bool, fb_ct (fun x => S x && (dk x == c) && !decide (m x = x)) 64 ≤ fb_ct (fun x => S x && (dk x == !c) && !decide (m x = x)) 64 := by
      intro c
      refine cinj (g := m) (fun x hx hP => ?_) (fun x y hx hy hP hP' e => ?_)
      · simp only [Bool.and_eq_true, beq_iff_eq, Bool.not_eq_true', decide_eq_false_iff_not] at hP
        obtain ⟨b1, b2, b3⟩ := hm x hP.1.1
        have := nb_dk hd hP.1.1 b1 (b3.resolve_left hP.2)
        refine ⟨(hre _ b1).1, ?_⟩
        simp only [Bool.and_eq_true, beq_iff_eq, Bool.not_eq_true', decide_eq_false_iff_not]
        refine ⟨⟨b1, by rw [this, hP.1.2]⟩, fun e => hP.2 ?_⟩
        rw [b2] at e; exact e.symm
      · simp only [Bool.and_eq_true] at hP hP'
        rw [← (hm x hP.1.1).2.1, e, (hm y hP'.1.1).2.1]
    have a := half false
    have b := half true
    have c1 : fb_ct (fun x => S x && (dk x == false) && !decide (m x = x)) 64 = fb_ct (fun x => S x && !dk x && !decide (m x = x)) 64 := fb_ct_cong (fun x _ => by cases dk x <;> rfl)
    have c2 : fb_ct (fun x => S x && (dk x == true) && !decide (m x = x)) 64 = fb_ct (fun x => S x && dk x && !decide (m x = x)) 64 := fb_ct_cong (fun x _ => by cases dk x <;> rfl)
    have d1 : (!false) = true := rfl
    have d2 : (!true) = false := rfl
    rw [d1, c1, c2] at a
    rw [d2, c1, c2] at b
    omega
  have e2 : fb_ct (fun x => (S x && decide (m x = x)) || ((S x && !dk x && !decide (m x = x)) || (S x && dk x && !decide (m x = x)))) 64 = fb_ct S 64 := fb_ct_cong (fun x _ => by cases S x <;> cases dk x <;> cases decide (m x = x) <;> rfl)
  rw [fb_ct_or (fun x _ => by cases S x <;> cases dk x <;> cases decide (m x = x) <;> simp), fb_ct_or (fun x _ => by cases S x <;> cases dk x <;> cases decide (m x = x) <;> simp)] at e2
  omega
/-! the cells that can stay free -/
def Fs (w : Nat) (r : Bool) (S : Nat → Bool) (m : Nat → Nat) : Nat → Nat → Prop
  | 0, x => S x = true ∧ m x = x
  | n + 1, x => Fs w r S m n x ∨ ∃ b f, S b = true ∧ Fs w r S m n f ∧ nb w r f b = true ∧ m b ≠ b ∧ m b = x
theorem Fs_S {m : Nat → Nat} (hm : mg w r S m) : ∀ n x, Fs w r S m n x → S x = true
  | 0, x, hx => hx.1
  | n + 1, x, hx => by
    rcases hx with hx | ⟨b, f, b1, b2, b3, b4, b5⟩
    · exact Fs_S hm n x hx
    · rw [← b5]; exact (hm b b1).1
end MATCH
