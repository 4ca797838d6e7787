/-! ===== pieces put, as many as can be: matchings between light and dark cells ===== -/
theorem cinj {N : Nat} {P R : Nat → Bool} {g : Nat → Nat} : ∀ {n : Nat}, (∀ i, i < n → P i = true → g i < N ∧ R (g i) = true) → (∀ i j, i < n → j < n → P i = true → P j = true → g i = g j → i = j) → fb_ct P n ≤ fb_ct R N := by
  intro n
  induction n generalizing R with
  | zero => intro _ _; exact Nat.zero_le _
  | succ n ih =>
    intro h1 h2
    rw [fb_ct_succ]
    cases hp : P n
    · have := ih (R := R) (fun i hi hP => h1 i (by omega) hP) (fun i j hi hj a b e => h2 i j (by omega) (by omega) a b e)
      show _ + 0 ≤ _
      omega
    · obtain ⟨a1, a2⟩ := h1 n (by omega) hp
      have := ih (R := fun k => if k = g n then false else R k) (fun i hi hP => by
        obtain ⟨b1, b2⟩ := h1 i (by omega) hP
        refine ⟨b1, ?_⟩
        show (if g i = g n then false else R (g i)) = true
        rw [if_neg (fun e => by have := h2 i n (by omega) (by omega) hP hp e; omega)]; exact b2) (fun i j hi hj a b e => h2 i j (by omega) (by omega) a b e)
      have u := fb_ct_upd R false (i := g n) (n := N) a1
      rw [a2] at u
      have e1 : (if true = true then 1 else 0 : Nat) = 1 := rfl
      have e2 : (if false = true then 1 else 0 : Nat) = 0 := rfl
      rw [e1, e2] at u
      show _ + 1 ≤ _
      omega
theorem ct_ex {P : Nat → Bool} {n k : Nat} (hk : k < n) (hp : P k = true) : fb_ct (fun j => P j && !decide (j = k)) n + 1 = fb_ct P n := by
  have u := fb_ct_upd P false (i := k) (n := n) hk
  rw [hp] at u
  have e1 : (if true = true then 1 else 0 : Nat) = 1 := rfl
  have e2 : (if false = true then 1 else 0 : Nat) = 0 := rfl
  rw [e1, e2] at u
  have e3 : fb_ct (fun j => P j && !decide (j = k)) n = fb_ct (fun j => if j = k then false else P j) n := fb_ct_cong (fun j _ => by
    by_cases q : j = k
    · rw [if_pos q, decide_eq_true q]; simp
    · rw [if_neg q, decide_eq_false q]; simp)
  omega
section MATCH
variable {w h : Nat} {r : Bool} {S T : Nat → Bool}
/-- a matching: for each light cell its dark one, or 64 -/
def lm (w : Nat) (r : Bool) (T : Nat → Bool) (f : Nat → Nat) : Prop := (∀ l, l < 64 → f l < 64 → T l = true ∧ dk l = false ∧ T (f l) = true ∧ dk (f l) = true ∧ nb w r (f l) l = true) ∧ ∀ l l', l < 64 → l' < 64 → f l < 64 → f l = f l' → l = l'
def sz (f : Nat → Nat) : Nat := fb_ct (fun l => decide (f l < 64)) 64
def mm (w : Nat) (r : Bool) (T : Nat → Bool) (k : Nat) : Prop := (∃ f, lm w r T f ∧ sz f = k) ∧ ∀ f, lm w r T f → sz f ≤ k
/-- what shows that a matching is as large as can be: dark cells that were not matched, and all that is reached from them -/
def ce (w : Nat) (r : Bool) (T : Nat → Bool) (f : Nat → Nat) (Zd Zl : Nat → Bool) : Prop := (∀ d, Zd d = true → d < 64 ∧ T d = true ∧ dk d = true) ∧ (∀ d l, Zd d = true → l < 64 → T l = true → nb w r d l = true → Zl l = true) ∧ ∀ l, Zl l = true → l < 64 ∧ f l < 64 ∧ Zd (f l) = true
/-! both sides at once: a cell without a mate is its own -/
def mg (w : Nat) (r : Bool) (S : Nat → Bool) (m : Nat → Nat) : Prop := ∀ x, S x = true → S (m x) = true ∧ m (m x) = x ∧ (m x = x ∨ nb w r x (m x) = true)
def fm (S : Nat → Bool) (m : Nat → Nat) (l : Nat) : Nat := if S l = true ∧ dk l = false ∧ m l ≠ l then m l else 64
theorem nb_dk (hd : jd w h r S) {a b : Nat} (ha : S a = true) (hb : S b = true) (hn : nb w r a b = true) : dk b = !dk a := by
  obtain ⟨hw1, hw8, hh1, hh8, hr, hre⟩ := hd
  have ra := hre a ha
  have rb := hre b hb
  have key : (b % 8 + b / 8) % 2 = 1 - (a % 8 + a / 8) % 2 := by
    unfold nb at hn
    simp only [Bool.or_eq_true, Bool.and_eq_true, decide_eq_true_eq] at hn
    rcases hn with ((((hn | hn) | hn) | hn) | hn) | hn
    · omega
    · omega
    · omega
    · omega
    · have h1 := hr hn.1.1
      have h2 : b % 8 = w - 1 := by omega
      have h3 : b / 8 = a / 8 := by omega
      rw [h2, h3]; omega
    · have h1 := hr hn.1.1
      have h2 : a % 8 = w - 1 := by omega
      have h3 : a / 8 = b / 8 := by omega
      rw [h2, h3]; omega
  unfold dk
  by_cases q : (a % 8 + a / 8) % 2 = 0
  · rw [decide_eq_true q, decide_eq_false (by omega)]; rfl
  · rw [decide_eq_false q, decide_eq_true (by omega)]; rfl
theorem nb_i {a : Nat} (hw : 2 ≤ w ∨ r = false) : nb w r a a = false := by
  cases e : nb w r a a
  · rfl
  · unfold nb at e
    simp only [Bool.or_eq_true, Bool.and_eq_true, decide_eq_true_eq] at e
    rcases e with ((((e | e) | e) | e) | e) | e
    · omega
    · omega
    · omega
    · omega
    · rcases hw with hw | hw
      · omega
      · rw [hw] at e; cases e.1.1
    · rcases hw with hw | hw
      · omega
      · rw [hw] at e; cases e.1.1
theorem fm_lt {m : Nat → Nat} (hd : jd w h r S) (hm : mg w r S m) {l : Nat} (hl : fm S m l < 64) : S l = true ∧ dk l = false ∧ m l ≠ l ∧ fm S m l = m l := by
  unfold fm at hl ⊢
  by_cases q : S l = true ∧ dk l = false ∧ m l ≠ l
  · rw [if_pos q]; exact ⟨q.1, q.2.1, q.2.2, rfl⟩
  · rw [if_neg q] at hl; omega
/-! the cells that can stay free -/
def Fs (w : Nat) (r : Bool) (S : Nat → Bool) (m : Nat → Nat) : Nat → Nat → Prop
  | 0, x => S x = true ∧ m x = x
  | n + 1, x => Fs w r S m n x ∨ ∃ b f, S b = true ∧ Fs w r S m n f ∧ nb w r f b = true ∧ m b ≠ b ∧ m b = x
theorem Fs_S {m : Nat → Nat} (hm : mg w r S m) : ∀ n x, Fs w r S m n x → S x = true
  | 0, x, hx => hx.1
  | n + 1, x, hx => by
    rcases hx with hx | ⟨b, f, b1, b2, b3, b4, b5⟩
    · exact Fs_S hm n x hx
    · rw [← b5]; exact (hm b b1).1
end MATCH
