/-! ===== the reference's search for a mate ===== -/
def up1 (f : Nat → Nat) (o v : Nat) : Nat → Nat := fun l => if l = o then v else f l
theorem up1_e {f : Nat → Nat} {o v : Nat} : up1 f o v o = v := if_pos rfl
theorem up1_n {f : Nat → Nat} {o v l : Nat} (hl : l ≠ o) : up1 f o v l = f l := if_neg hl
theorem sz_up {f : Nat → Nat} {o v : Nat} (ho : o < 64) : sz (up1 f o v) + (if f o < 64 then 1 else 0) = sz f + (if v < 64 then 1 else 0) := by
  have u := fb_ct_upd (fun l => decide (f l < 64)) (decide (v < 64)) (i := o) (n := 64) ho
  have e : fb_ct (fun k => if k = o then decide (v < 64) else decide (f k < 64)) 64 = sz (up1 f o v) := fb_ct_cong (fun k _ => by
    unfold up1
    by_cases q : k = o
    · rw [if_pos q, if_pos q]
    · rw [if_neg q, if_neg q])
  rw [e] at u
  simp only [decide_eq_true_eq] at u
  exact u
theorem sz_c {f g : Nat → Nat} (e : ∀ l, l < 64 → f l = g l) : sz f = sz g := fb_ct_cong (fun l hl => by rw [e l hl])
section FINDS
variable {w h : Nat} {r : Bool} {S T : Nat → Bool}
/-- closed: nothing is free that is reached from these dark cells -/
def clz (w : Nat) (r : Bool) (T : Nat → Bool) (f : Nat → Nat) (Zd Zl : Nat → Bool) : Prop := (∀ d l, Zd d = true → l < 64 → T l = true → nb w r d l = true → Zl l = true) ∧ ∀ l, Zl l = true → f l < 64 ∧ Zd (f l) = true
/-- a dark cell without a mate, but perhaps one that is to be given up -/
def pre (w : Nat) (r : Bool) (T : Nat → Bool) (f : Nat → Nat) (V : Nat → Bool) (c e : Nat) : Prop := lm w r T f ∧ c < 64 ∧ T c = true ∧ dk c = true ∧ (∀ l, l < 64 → f l = c → l = e) ∧ ((e = 64) ∨ (e < 64 ∧ f e = c ∧ V e = true))
def pst (w : Nat) (r : Bool) (T : Nat → Bool) (f : Nat → Nat) (V : Nat → Bool) (c e : Nat) (f' : Nat → Nat) : Prop := (∀ l, V l = true → f' l = f l) ∧ lm w r T (up1 f' e 64) ∧ sz (up1 f' e 64) = sz (up1 f e 64) + 1 ∧ (∀ l, l < 64 → l ≠ e → f l < 64 → ∃ l', l' < 64 ∧ l' ≠ e ∧ f' l' = f l) ∧ (∃ l, l < 64 ∧ l ≠ e ∧ f' l = c) ∧ ∀ Zd Zl, clz w r T f Zd Zl → Zd c = false ∧ ∀ l, Zl l = true → f' l = f l
def nff (w : Nat) (r : Bool) (T : Nat → Bool) (f : Nat → Nat) (V : Nat → Bool) (c : Nat) (V' : Nat → Bool) : Prop := (∀ l, V l = true → V' l = true) ∧ (∀ l, l < 64 → T l = true → nb w r c l = true → V' l = true) ∧ ∀ l, V' l = true → V l = false → l < 64 ∧ T l = true ∧ f l < 64 ∧ ∀ l2, l2 < 64 → T l2 = true → nb w r (f l) l2 = true → V' l2 = true
/-- a free light cell is taken -/
theorem pst_1 {f : Nat → Nat} {V : Nat → Bool} {c e o : Nat} (hp : pre w r T f V c e) (ho : o < 64) (oT : T o = true) (ok : dk o = false) (oV : V o = false) (on : nb w r c o = true) (of : ¬ f o < 64) : pst w r T f V c e (up1 f o c) := by
  obtain ⟨hl, c64, cT, ck, cu, ce_⟩ := hp
  have oe : o ≠ e := fun q => by
    rcases ce_ with h1 | ⟨h1, h2, h3⟩
    · omega
    · rw [← q, oV] at h3; cases h3
  have val : ∀ l, up1 (up1 f o c) e 64 l = if l = e then 64 else if l = o then c else f l := fun l => rfl
  refine ⟨fun l hV => up1_n (fun q => by rw [q, oV] at hV; cases hV), ⟨fun l hl64 hf => ?_, fun l l' hl64 hl' hf he => ?_⟩, ?_, fun l hl64 hle hf => ⟨l, hl64, hle, up1_n (fun q => of (by rw [← q]; exact hf))⟩, ⟨o, ho, oe, up1_e⟩, fun Zd Zl hz => ?_⟩
  · rw [val] at hf ⊢
    by_cases q1 : l = e
    · rw [if_pos q1] at hf; omega
    · rw [if_neg q1] at hf ⊢
      by_cases q2 : l = o
      · rw [if_pos q2, q2]; exact ⟨oT, ok, cT, ck, on⟩
      · rw [if_neg q2] at hf ⊢
        exact hl.1 l hl64 hf
  · rw [val] at hf
    rw [val, val] at he
    by_cases q1 : l = e
    · rw [if_pos q1] at hf; omega
    · rw [if_neg q1] at hf he
      by_cases p1 : l' = e
      · rw [if_pos p1] at he; omega
      · rw [if_neg p1] at he
        by_cases q2 : l = o
        · rw [if_pos q2] at he
          by_cases p2 : l' = o
          · omega
          · rw [if_neg p2] at he
            exact absurd (cu l' hl' he.symm) p1
        · rw [if_neg q2] at hf he
          by_cases p2 : l' = o
          · rw [if_pos p2] at he
            exact absurd (cu l hl64 he) q1
          · rw [if_neg p2] at he
            exact hl.2 l l' hl64 hl' hf he
  · have e1 : sz (up1 (up1 f o c) e 64) = sz (up1 (up1 f e 64) o c) := sz_c (fun l _ => by
      unfold up1
      by_cases q1 : l = e
      · rw [if_pos q1, if_neg (fun q => oe (by omega)), if_pos q1]
      · rw [if_neg q1]
        by_cases q2 : l = o
        · rw [if_pos q2, if_pos q2]
        · rw [if_neg q2, if_neg q2, if_neg q1])
    have u := sz_up (f := up1 f e 64) (v := c) ho
    rw [up1_n oe, if_neg of, if_pos c64] at u
    omega
  · have nc : Zd c = false := by
      cases q : Zd c
      · rfl
      · exact absurd (hz.2 o (hz.1 c o q ho oT on)).1 of
    exact ⟨nc, fun l hZ => up1_n (fun q => of (by rw [← q]; exact (hz.2 l hZ).1))⟩
/-- the mate of a light cell finds another one -/
theorem pst_2 {f f1 : Nat → Nat} {V V0 : Nat → Bool} {c e o : Nat} (hp : pre w r T f V0 c e) (hV : ∀ l, V0 l = true → V l = true) (ho : o < 64) (oT : T o = true) (ok : dk o = false) (oV : V o = false) (on : nb w r c o = true) (of : f o < 64) (h1 : pst w r T f (fun j => if j = o then true else V j) (f o) o f1) : pst w r T f V0 c e (up1 f1 o c) := by
  obtain ⟨hl, c64, cT, ck, cu, ce_⟩ := hp
  obtain ⟨a1, a2, a3, a4, a5, a6⟩ := h1
  have oe : o ≠ e := fun q => by
    rcases ce_ with h1 | ⟨h1, h2, h3⟩
    · omega
    · have := hV _ h3; rw [← q, oV] at this; cases this
  have keep : ∀ l, V0 l = true → f1 l = f l := fun l hl0 => a1 l (by
    show (if l = o then true else V l) = true
    split
    · rfl
    · exact hV l hl0)
  have noc : ∀ l, l < 64 → l ≠ e → l ≠ o → f1 l ≠ c := by
    intro l hl64 hle hlo hf
    -- the cell c is the mate of e alone
    rcases ce_ with h1 | ⟨h1, h2, h3⟩
    · -- c has no mate: the cells that f1 uses are those of f, and f o
      have lmf := a2.1 l hl64 (by rw [up1_n hlo, hf]; exact c64)
      -- f1 without o has one more than f without o, and all of f's and f o are among its values
      have inj : sz f + 1 ≤ sz (up1 f1 o 64) := by
        have big : fb_ct (fun l' => decide (f l' < 64) ) 64 + 1 ≤ fb_ct (fun l' => decide (up1 f1 o 64 l' < 64)) 64 := by
          have ex := ct_ex (P := fun l' => decide (up1 f1 o 64 l' < 64)) (n := 64) hl64 (decide_eq_true (by rw [up1_n hlo, hf]; exact c64))
          have sub : fb_ct (fun l' => decide (f l' < 64)) 64 ≤ fb_ct (fun j => decide (up1 f1 o 64 j < 64) && !decide (j = l)) 64 := by
            refine cinj (g := fun l' => @dite Nat (∃ x, x < 64 ∧ x ≠ o ∧ f1 x = f l') (Classical.propDecidable _) (fun e => Classical.choose e) (fun _ => 64)) (fun l' hl' hP => ?_) (fun x y hx hy hP hP' he => ?_)
            · have hP := of_decide_eq_true hP
              have ex' : ∃ x, x < 64 ∧ x ≠ o ∧ f1 x = f l' := by
                by_cases q : l' = o
                · rw [q]; exact a5
                · exact a4 l' hl' q hP
              rw [dif_pos ex']
              obtain ⟨b1, b2, b3⟩ := Classical.choose_spec ex'
              refine ⟨b1, ?_⟩
              show (decide (up1 f1 o 64 (Classical.choose ex') < 64) && !decide (Classical.choose ex' = l)) = true
              rw [up1_n b2, b3, decide_eq_true hP, decide_eq_false (fun q => ?_)]
              · rfl
              · rw [q, hf] at b3
                have := cu l' hl' b3.symm
                omega
            · have hP := of_decide_eq_true hP
              have hP' := of_decide_eq_true hP'
              have exx : ∃ u, u < 64 ∧ u ≠ o ∧ f1 u = f x := by
                by_cases q : x = o
                · rw [q]; exact a5
                · exact a4 x hx q hP
              have exy : ∃ u, u < 64 ∧ u ≠ o ∧ f1 u = f y := by
                by_cases q : y = o
                · rw [q]; exact a5
                · exact a4 y hy q hP'
              rw [dif_pos exx, dif_pos exy] at he
              have c1 := (Classical.choose_spec exx).2.2
              have c2 := (Classical.choose_spec exy).2.2
              rw [he] at c1
              exact hl.2 x y hx hy hP (c1.symm.trans c2)
          omega
        exact big
      have u := sz_up (f := f) (v := 64) ho
      rw [if_pos of, if_neg (by omega)] at u
      omega
    · have := a2.2 l e hl64 h1 (by rw [up1_n hlo, hf]; exact c64) (by rw [up1_n hlo, up1_n (fun q => oe q.symm), hf, keep e h3, h2])
      exact hle this
  have val : ∀ l, up1 (up1 f1 o c) e 64 l = if l = e then 64 else if l = o then c else f1 l := fun l => rfl
  refine ⟨fun l hl0 => ?_, ⟨fun l hl64 hf => ?_, fun l l' hl64 hl' hf he => ?_⟩, ?_, fun l hl64 hle hf => ?_, ⟨o, ho, oe, up1_e⟩, fun Zd Zl hz => ?_⟩
  · have : l ≠ o := fun q => by have := hV l hl0; rw [q, oV] at this; cases this
    rw [up1_n this]; exact keep l hl0
  · rw [val] at hf ⊢
    by_cases q1 : l = e
    · rw [if_pos q1] at hf; omega
    · rw [if_neg q1] at hf ⊢
      by_cases q2 : l = o
      · rw [if_pos q2, q2]; exact ⟨oT, ok, cT, ck, on⟩
      · rw [if_neg q2] at hf ⊢
        have := a2.1 l hl64 (by rw [up1_n q2]; exact hf)
        rw [up1_n q2] at this; exact this
  · rw [val] at hf
    rw [val, val] at he
    by_cases q1 : l = e
    · rw [if_pos q1] at hf; omega
    · rw [if_neg q1] at hf he
      by_cases p1 : l' = e
      · rw [if_pos p1] at he; omega
      · rw [if_neg p1] at he
        by_cases q2 : l = o
        · rw [if_pos q2] at he
          by_cases p2 : l' = o
          · omega
          · rw [if_neg p2] at he
            exact absurd he.symm (noc l' hl' p1 p2)
        · rw [if_neg q2] at hf he
          by_cases p2 : l' = o
          · rw [if_pos p2] at he
            exact absurd he (noc l hl64 q1 q2)
          · rw [if_neg p2] at he
            exact a2.2 l l' hl64 hl' (by rw [up1_n q2]; exact hf) (by rw [up1_n q2, up1_n p2]; exact he)
  · have u0 := sz_up (f := f) (v := 64) ho
    rw [if_pos of, if_neg (by omega)] at u0
    have e1 : sz (up1 (up1 f1 o c) e 64) = sz (up1 (up1 (up1 f1 o 64) e 64) o c) := sz_c (fun l _ => by
      unfold up1
      by_cases q1 : l = e
      · rw [if_pos q1, if_neg (fun q => oe (by omega)), if_pos q1]
      · rw [if_neg q1]
        by_cases q2 : l = o
        · rw [if_pos q2, if_pos q2]
        · rw [if_neg q2, if_neg q2, if_neg q1, if_neg q2])
    have u1 := sz_up (f := up1 (up1 f1 o 64) e 64) (v := c) ho
    rw [up1_n oe, up1_e, if_neg (by omega), if_pos c64] at u1
    rcases ce_ with h1 | ⟨h1, h2, h3⟩
    · have e2 : sz (up1 (up1 f1 o 64) e 64) = sz (up1 f1 o 64) := sz_c (fun l hl64 => up1_n (by omega))
      have e3 : sz (up1 f e 64) = sz f := sz_c (fun l hl64 => up1_n (by omega))
      omega
    · have u2 := sz_up (f := up1 f1 o 64) (o := e) (v := 64) h1
      rw [up1_n (fun q => oe q.symm), keep e h3, h2, if_pos c64, if_neg (by omega)] at u2
      have u3 := sz_up (f := f) (o := e) (v := 64) h1
      rw [h2, if_pos c64, if_neg (by omega)] at u3
      omega
  · -- what was matched stays so
    by_cases q : l = o
    · obtain ⟨x, x1, x2, x3⟩ := a5
      refine ⟨x, x1, fun qe => ?_, ?_⟩
      · rcases ce_ with h1 | ⟨h1, h2, h3⟩
        · omega
        · rw [qe, keep e h3, h2] at x3
          have := cu o ho x3.symm
          exact oe this
      · rw [up1_n x2, x3, q]
    · obtain ⟨x, x1, x2, x3⟩ := a4 l hl64 q hf
      refine ⟨x, x1, fun qe => ?_, by rw [up1_n x2]; exact x3⟩
      rcases ce_ with h1 | ⟨h1, h2, h3⟩
      · omega
      · rw [qe, keep e h3, h2] at x3
        exact hle (cu l hl64 x3.symm)
  · obtain ⟨b1, b2⟩ := a6 Zd Zl hz
    have no : Zl o = false := by
      cases q : Zl o
      · rfl
      · have := (hz.2 o q).2
        rw [b1] at this; cases this
    refine ⟨?_, fun l hZ => ?_⟩
    · cases q : Zd c
      · rfl
      · rw [hz.1 c o q ho oT on] at no; cases no
    · have : l ≠ o := fun q => by rw [q, no] at hZ; cases hZ
      rw [up1_n this]; exact b2 l hZ
end FINDS
