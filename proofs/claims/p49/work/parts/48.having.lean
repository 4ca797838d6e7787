/-! ===== the table of pieces, and having ===== -/
def hvt (w h : Nat) (r : Bool) (S : Nat → Bool) (z : tq_S) : Prop := ∀ x y W, x < w → y < h → wpc w r x W → S (8 * y + x) = true → S (ot w x y W) = true → tq_al z 7 (hdx w x y W) = lN (cv_T w r 0 (cv_rm S (8 * y + x) (ot w x y W)))
def hvp (w h : Nat) (r : Bool) (S : Nat → Bool) (p : Nat) (z : tq_S) : Prop := ∀ x y W, x < w → y < h → wpc w r x W → S (8 * y + x) = true → S (ot w x y W) = true → tq_al z 7 (hdx w x y W) = if 8 * y + x < p then lN (cv_T w r 0 (cv_rm S (8 * y + x) (ot w x y W))) else 0
def FH : List (Nat × Nat) := [(3, 3), (3, 4), (0, 134), (3, 5), (3, 6), (3, 7), (0, 135)]
section HVT
variable {w h : Nat} {r : Bool} {S : Nat → Bool} {z : tq_S} {Q : tq_O → tq_S → Prop}
theorem hdx_lt {x y W : Nat} (bw : w ≤ 8) (bw1 : 1 ≤ w) (bhh : h ≤ 8) (hx : x < w) (hy : y < h) (hp : wpc w r x W) : hdx w x y W < 128 := by
  have g1 : hdx w x y 1 = 2 * (8 * y + x) := rfl
  have g2 : hdx w x y 2 = 2 * (8 * y + x) + 1 := rfl
  have g3 : hdx w x y 3 = 2 * (8 * y + (w - 1)) := rfl
  rcases hp with ⟨rfl, p⟩ | rfl | ⟨rfl, p, p2⟩ <;> omega
theorem fce_g {F : List (Nat × Nat)} {z1 : tq_S} {b : Option Nat} {y x0 : Nat} (hf : fr F z z1) (h4 : (3, 4) ∉ F) (hg : fce w r S b y x0 z) : fce w r S b y x0 z1 := fun x h1 h2 st hv => by rw [fr_al hf h4]; exact hg x h1 h2 st hv
/-- a piece that a call names -/
def pcn (w h : Nat) (r : Bool) (S : Nat → Bool) (X Y D : Int32) (x y o : Nat) : Prop := X = nI x ∧ Y = nI y ∧ x < w ∧ y < h ∧ S (8 * y + x) = true ∧ bs w h r (8 * y + x) (if D = 0 then 2 else 0) = some o ∧ S o = true
theorem sq_isPiece {X Y D : Int32} (hd : jd w h r S) (hj : jc w h r S z) (k0 : (∀ x y o, ¬ pcn w h r S X Y D x y o) → Q (.inl (some (.int 0))) z) (k1 : ∀ x y o, pcn w h r S X Y D x y o → Q (.inl (some (.int 1))) z) : wm_X1_isPiece X Y D z Q := by
  have hw8 := hd.2.1
  have hw1 := hd.1
  have hh8 := hd.2.2.2.1
  have hh1 := hd.2.2.1
  unfold wm_X1_isPiece
  refine sq_holds hw8 hh8 hj ⟨_, rfl, fun h1 => ?_, fun h1 => ?_⟩
  · rw [bi_n] at h1
    obtain ⟨x, y, rfl, rfl, hx, hy, sa⟩ := ho_t hw8 hh8 h1
    have cd : (8 * y + x) / 8 = y := by omega
    have cm : (8 * y + x) % 8 = x := by omega
    have uq : ∀ {x' y' o'}, pcn w h r S (nI x) (nI y) D x' y' o' → x' = x ∧ y' = y := by
      rintro x' y' o' ⟨q1, q2, q3, q4, -⟩
      rw [i_eq (by omega) (by omega)] at q1 q2
      exact ⟨q1.symm, q2.symm⟩
    refine ⟨fun h2 => ?_, fun h2 => ?_⟩
    · have eb : bs w h r (8 * y + x) (if D = 0 then 2 else 0) = if y + 1 < h then some (8 * y + x + 8) else none := by
        rw [if_pos h2]; unfold bs
        rw [if_neg (by omega), if_neg (by omega), if_pos rfl, cd]
      rw [i_1, i_add]
      refine sq_holds hw8 hh8 hj ⟨_, rfl, bi_z, ?_⟩
      show Q (.inl (some (.int (bi (ho w h S (nI x) (nI (y + 1))))))) z
      rw [ho_n (by omega) (by omega), decide_eq_true hx, Bool.true_and]
      have e8 : 8 * (y + 1) + x = 8 * y + x + 8 := by omega
      rw [e8]
      cases q : (decide (y + 1 < h) && S (8 * y + x + 8))
      · refine k0 (fun x' y' o' u => ?_)
        obtain ⟨q1, q2⟩ := uq u
        subst q1
        subst q2
        obtain ⟨-, -, -, -, -, q3, q4⟩ := u
        rw [eb] at q3
        split at q3
        · cases q3
          rename_i q5
          rw [decide_eq_true q5, q4] at q; cases q
        · cases q3
      · simp only [Bool.and_eq_true, decide_eq_true_eq] at q
        exact k1 x y (8 * y + x + 8) ⟨rfl, rfl, hx, hy, sa, by rw [eb, if_pos q.1], q.2⟩
    · have eb : bs w h r (8 * y + x) (if D = 0 then 2 else 0) = if x + 1 < w then some (8 * y + x + 1) else if r = true then some (8 * y + x - (w - 1)) else none := by
        rw [if_neg h2]; unfold bs
        rw [if_pos rfl, cm]
      refine sq_rightOf hd hj hx ⟨_, rfl, ?_⟩
      refine sq_holds hw8 hh8 hj ⟨_, rfl, bi_z, ?_⟩
      have no : (bs w h r (8 * y + x) (if D = 0 then 2 else 0) = none ∨ ∃ o, bs w h r (8 * y + x) (if D = 0 then 2 else 0) = some o ∧ S o = false) → Q (.inl (some (.int 0))) z := by
        intro u
        refine k0 (fun x' y' o' v => ?_)
        obtain ⟨q1, q2⟩ := uq v
        subst q1
        subst q2
        obtain ⟨-, -, -, -, -, q3, q4⟩ := v
        rcases u with u | ⟨o, u1, u2⟩
        · rw [u] at q3; cases q3
        · rw [u1] at q3; cases q3; rw [u2] at q4; cases q4
      by_cases q1 : x + 1 < w
      · rw [if_pos q1] at eb
        show Q (.inl (some (.int (bi (ho w h S (if x + 1 < w then nI (x + 1) else if r = true then nI 0 else -1) (nI y)))))) z
        rw [if_pos q1, ho_n (by omega) (by omega), decide_eq_true q1, decide_eq_true hy, Bool.true_and, Bool.true_and, ← Nat.add_assoc]
        cases q : S (8 * y + x + 1)
        · exact no (Or.inr ⟨_, eb, q⟩)
        · exact k1 x y _ ⟨rfl, rfl, hx, hy, sa, eb, q⟩
      · rw [if_neg q1] at eb
        show Q (.inl (some (.int (bi (ho w h S (if x + 1 < w then nI (x + 1) else if r = true then nI 0 else -1) (nI y)))))) z
        rw [if_neg q1]
        by_cases q2 : r = true
        · rw [if_pos q2] at eb ⊢
          have e0 : 8 * y + x - (w - 1) = 8 * y + 0 := by omega
          rw [e0] at eb
          rw [ho_n (by omega) (by omega), decide_eq_true (by omega : 0 < w), decide_eq_true hy, Bool.true_and, Bool.true_and]
          cases q : S (8 * y + 0)
          · exact no (Or.inr ⟨_, eb, q⟩)
          · exact k1 x y _ ⟨rfl, rfl, hx, hy, sa, eb, q⟩
        · rw [if_neg q2] at eb ⊢
          have e0 : ho w h S (-1 : Int32) (nI y) = false := by
            have : (-1 : Int32).toInt = -1 := by decide +kernel
            unfold ho
            rw [this]; rfl
          rw [e0]
          exact no (Or.inl eb)
  · rw [bi_0] at h1
    refine k0 (fun x y o u => ?_)
    obtain ⟨q1, q2, hx, hy, sa, -⟩ := u
    rw [q1, q2, ho_n (by omega) (by omega), decide_eq_true hx, decide_eq_true hy, sa] at h1
    cases h1
theorem cv_rm_cm {S : Nat → Bool} {a b : Nat} : cv_rm S a b = cv_rm S b a := by
  funext j
  unfold cv_rm
  cases S j <;> cases decide (j = a) <;> cases decide (j = b) <;> rfl
theorem hvt_get {X Y D : Int32} {x y o : Nat} (hd : jd w h r S) (hv : hvt w h r S z) (hp : pcn w h r S X Y D x y o) : tq_al z 7 (2 * (8 * y + x) + (if D = 0 then 1 else 0)) = lN (cv_T w r 0 (cv_rm S (8 * y + x) o)) := by
  obtain ⟨-, -, hx, hy, sa, q3, q4⟩ := hp
  have hw8 := hd.2.1
  have cd : (8 * y + x) / 8 = y := by omega
  have cm : (8 * y + x) % 8 = x := by omega
  by_cases h2 : D = 0
  · rw [if_pos h2] at q3 ⊢
    unfold bs at q3
    rw [if_neg (by omega), if_neg (by omega), if_pos rfl, cd] at q3
    split at q3
    · cases q3
      have e8 : 8 * y + x + 8 = ot w x y 2 := by show _ = 8 * (y + 1) + x; omega
      rw [e8] at q4 ⊢
      exact hv x y 2 hx hy (Or.inr (Or.inl rfl)) sa q4
    · cases q3
  · rw [if_neg h2] at q3 ⊢
    unfold bs at q3
    rw [if_pos rfl, cm] at q3
    split at q3
    · rename_i q5
      cases q3
      have e8 : 8 * y + x + 1 = ot w x y 1 := by show _ = 8 * y + (x + 1); omega
      rw [e8] at q4 ⊢
      exact hv x y 1 hx hy (Or.inl ⟨rfl, q5⟩) sa q4
    · rename_i q5
      split at q3
      · rename_i q6
        cases q3
        have e8 : 8 * y + x = ot w 0 y 3 := by show _ = 8 * y + (w - 1); omega
        have e9 : 8 * y + x - (w - 1) = 8 * y + 0 := by omega
        have e10 : 2 * (8 * y + x) + 0 = hdx w 0 y 3 := by show _ = 2 * (8 * y + (w - 1)); omega
        rw [e10, e9, cv_rm_cm, e8]
        rw [e9] at q4
        rw [e8] at sa
        exact hv 0 y 3 (by omega) hy (Or.inr (Or.inr ⟨rfl, rfl, q6⟩)) q4 sa
      · cases q3
theorem pc_big {r : Bool} {S' : Nat → Bool} (hd : jd w h r S) (hS : ∀ j, S' j = true → S j = true) : cv_T w r 0 S' < 9223372036854775808 := by
  have := cv_big (w := w) (r := r) (i := 0) (S := S') (fun q => by have := jd_r hd q; omega) (fun j hj => jd_in hd j (hS j hj))
  omega
theorem sq_withPiece {X Y D : Int32} {x y o : Nat} (hd : jd w h r S) (hv : hvt w h r S z) (hp : pcn w h r S X Y D x y o) (k : Q (.inl (some (.long (lN (cv_T w r 0 (cv_rm S (8 * y + x) o)))))) z) : wm_X5_withPiece X Y D z Q := by
  have hg := hvt_get hd hv hp
  obtain ⟨rfl, rfl, hx, hy, sa, q3, q4⟩ := hp
  have hw8 := hd.2.1
  have hh8 := hd.2.2.2.1
  unfold wm_X5_withPiece
  rw [i_8, pk_mul, i_add, i_2, pk_mul, i_1, i_add, i_cl (by omega)]
  refine ⟨fun h2 => ⟨i_in (by omega) (by omega), ?_⟩, fun h2 => ?_⟩
  · rw [if_pos h2] at hg
    rw [hg]; exact k
  · rw [i_0, i_add, i_cl (by omega)]
    rw [if_neg h2] at hg
    rw [hg]
    exact ⟨i_in (by omega) (by omega), k⟩
end HVT
