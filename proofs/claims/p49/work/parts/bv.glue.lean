section GLV
variable {w h : Nat} {r : Bool} {S : Nat → Bool} {z z' z1 z2 z3 : tq_S} {F F1 : List (Nat × Nat)} {kN n : Nat} {C M Z : Nat → Nat} {A : Nat → Int64} {T : Int64} {p : Nat → Nat} {u : Nat} {b0 : Bool} {x y : Int32}
theorem dg_c (n : Nat) : ∀ c, c ∈ dg n → c < 65536 := by
  induction n using Nat.strongRecOn with
  | ind n ih =>
    intro c hc
    by_cases q : n < 10
    · rw [dg_1 q] at hc
      have := List.mem_singleton.mp hc
      omega
    · rw [dg_2 q] at hc
      rcases List.mem_append.mp hc with hc | hc
      · exact ih _ (by omega) c hc
      · have := List.mem_singleton.mp hc
        omega
theorem tn_c {b : Bool} {n : Nat} : ∀ c, c ∈ tn b n → c < 65536 := by
  intro c hc
  unfold tn at hc
  rcases List.mem_append.mp hc with hc | hc
  · cases b
    · exact absurd hc List.not_mem_nil
    · have := List.mem_singleton.mp hc
      omega
  · exact dg_c n c hc
theorem nI_u {a b : Nat} (ha : a < 100000) (hb : b < 100000) (e : nI a = nI b) : a = b := (i_eq (by omega) (by omega)).mp e
theorem c_ho {a b : Nat} (e : ho w h S x y = false) (hx : x = nI a) (hy : y = nI b) (ha : a < w) (hb : b < h) (hs : S (8 * b + a) = true) (hw : w ≤ 8) (hh : h ≤ 8) : False := by
  rw [hx, hy, ho_n (by omega) (by omega), decide_eq_true ha, decide_eq_true hb, hs] at e
  cases e
theorem c_fm {c a : Int32} {n : Nat} (e : fm_v c a = false) (ha : a = nI n) (hk : fm_k c n) : False := by
  have d : ¬ (115 : Int32) = 97 := by decide +kernel
  have d2 : ¬ (111 : Int32) = 97 := by decide +kernel
  have d3 : ¬ (111 : Int32) = 115 := by decide +kernel
  have d4 : ¬ (99 : Int32) = 97 := by decide +kernel
  have d5 : ¬ (99 : Int32) = 115 := by decide +kernel
  have d6 : ¬ (99 : Int32) = 111 := by decide +kernel
  rw [ha] at e
  unfold fm_v at e
  rcases hk with ⟨rfl, h1, h2⟩ | ⟨rfl, h1, h2⟩ | ⟨rfl, h1, h2⟩ | ⟨rfl, h1, h2⟩
  · rw [if_pos rfl] at e
    have := fi_ok (a := 1) (b := 4) h1 h2 (by omega)
    exact absurd (this.symm.trans e) (by decide)
  · rw [if_neg d, if_pos rfl] at e
    have := fi_ok (a := 1) (b := 8) h1 h2 (by omega)
    exact absurd (this.symm.trans e) (by decide)
  · rw [if_neg d2, if_neg d3, if_pos rfl] at e
    have := fi_ok (a := 3) (b := 8) h1 h2 (by omega)
    exact absurd (this.symm.trans e) (by decide)
  · rw [if_neg d4, if_neg d5, if_neg d6, if_pos rfl] at e
    have := fi_ok (a := 2) (b := 8) h1 h2 (by omega)
    exact absurd (this.symm.trans e) (by decide)
theorem c_bd {a b : Nat} (e : (fi 1 8 x && fi 1 8 y) = false) (hx : x = nI a) (hy : y = nI b) (h1 : 1 ≤ a) (h2 : a ≤ 8) (h3 : 1 ≤ b) (h4 : b ≤ 8) : False := by
  have e1 := fi_ok (a := 1) (b := 8) h1 h2 (by omega)
  have e2 := fi_ok (a := 1) (b := 8) h3 h4 (by omega)
  have e : (fi ((1 : Nat) : Int) ((8 : Nat) : Int) x && fi ((1 : Nat) : Int) ((8 : Nat) : Int) y) = false := e
  rw [hx, hy, e1, e2] at e
  cases e
theorem st2_u {X Y : Int32} {a b a' b' : Nat} (h1 : st2 X Y a b) (h2 : st2 X Y a' b') : a' = a ∧ b' = b := by
  obtain ⟨x1, x2, x3, x4, x5⟩ := h1
  obtain ⟨y1, y2, y3, y4, y5⟩ := h2
  exact ⟨nI_u (by omega) (by omega) (y4.symm.trans x4), nI_u (by omega) (by omega) (y5.symm.trans x5)⟩
theorem st1_u {X : Int32} {a a' : Nat} (h1 : st1 X a) (h2 : st1 X a') : a' = a := nI_u (by have := h2.2.1; omega) (by have := h1.2.1; omega) (h2.2.2.symm.trans h1.2.2)
theorem sOrd_b {w : Nat} (h1 : 1 ≤ w) (h2 : w ≤ 6) : sOrd w < 1000 := by
  have : ∀ a : Fin 6, sOrd (a.val + 1) < 1000 := by decide +kernel
  have e := this ⟨w - 1, by omega⟩
  have e2 : w - 1 + 1 = w := by omega
  rw [← e2]; exact e
theorem st3_u {X Y : Int32} {a b a' b' : Nat} (h1 : st3 X Y a b) (h2 : st3 X Y a' b') : a' = a ∧ b' = b := by
  obtain ⟨x1, x2, x3, x4, x5⟩ := h1
  obtain ⟨y1, y2, y3, y4, y5⟩ := h2
  have k1 := sOrd_b x1 x2
  have k2 := sOrd_b y1 y2
  have e := nI_u (by omega) (by omega) (y5.symm.trans x5)
  exact ⟨nI_u (by omega) (by omega) (y4.symm.trans x4), by omega⟩
theorem h3_u {X Y V : Int32} {a b c a' b' c' : Nat} (h1 : h3 X Y V a b c) (h2 : h3 X Y V a' b' c') : a' = a ∧ b' = b ∧ c' = c := by
  obtain ⟨x1, x2, x3, x4, x5, x6, x7, x8, x9⟩ := h1
  obtain ⟨y1, y2, y3, y4, y5, y6, y7, y8, y9⟩ := h2
  exact ⟨nI_u (by omega) (by omega) (y7.symm.trans x7), nI_u (by omega) (by omega) (y8.symm.trans x8), nI_u (by omega) (by omega) (y9.symm.trans x9)⟩
theorem pcn_u {X Y D : Int32} {a b o a' b' o' : Nat} (hw : w ≤ 8) (hh : h ≤ 8) (h1 : pcn w h r S X Y D a b o) (h2 : pcn w h r S X Y D a' b' o') : a' = a ∧ b' = b ∧ o' = o := by
  obtain ⟨x1, x2, x3, x4, x5, x6, x7⟩ := h1
  obtain ⟨y1, y2, y3, y4, y5, y6, y7⟩ := h2
  have e1 : a' = a := nI_u (by omega) (by omega) (y1.symm.trans x1)
  have e2 : b' = b := nI_u (by omega) (by omega) (y2.symm.trans x2)
  subst e1
  subst e2
  exact ⟨rfl, rfl, Option.some.inj (y6.symm.trans x6)⟩
end GLV
