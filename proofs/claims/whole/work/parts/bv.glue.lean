/-! ===== what the law's steps stand on ===== -/
section GLV
variable {w h : Nat} {r : Bool} {S : Nat → Bool} {z z' z1 z2 z3 : tq_S} {F F1 : List (Nat × Nat)} {kN n : Nat} {C M Z : Nat → Nat} {A : Nat → Int64} {T : Int64} {p : Nat → Nat} {u : Nat} {b0 : Bool} {x y : Int32}
theorem dg_c (n : Nat) : ∀ c, c ∈ dg n → c < 65536 := by
  induction n using Nat.strongRecOn with
  | ind n ih =>
    intro c hc
    by_cases q : n < 10
    · rw [dg_1 q] at hc
      have := List.mem_singleton.mp hc
      omega
    · rw [dg_2 q] at hc
      rcases List.mem_append.mp hc with hc | hc
      · exact ih _ (by omega) c hc
      · have := List.mem_singleton.mp hc
        omega
theorem tn_c {b : Bool} {n : Nat} : ∀ c, c ∈ tn b n → c < 65536 := by
  intro c hc
  unfold tn at hc
  rcases List.mem_append.mp hc with hc | hc
  · cases b
    · exact absurd hc List.not_mem_nil
    · have := List.mem_singleton.mp hc
      omega
  · exact dg_c n c hc
theorem nI_u {a b : Nat} (ha : a < 100000) (hb : b < 100000) (e : nI a = nI b) : a = b := (i_eq (by omega) (by omega)).mp e
theorem c_ho {a b : Nat} (e : ho w h S x y = false) (hx : x = nI a) (hy : y = nI b) (ha : a < w) (hb : b < h) (hs : S (8 * b + a) = true) (hw : w ≤ 8) (hh : h ≤ 8) : False := by
  rw [hx, hy, ho_n (by omega) (by omega), decide_eq_true ha, decide_eq_true hb, hs] at e
  cases e
theorem c_wi {a b : Nat} (e : (wi w h x y && !ho w h S x y) = false) (hx : x = nI a) (hy : y = nI b) (ha : a < w) (hb : b < h) (hs : S (8 * b + a) = false) (hw : w ≤ 8) (hh : h ≤ 8) : False := by
  rw [hx, hy, ho_n (by omega) (by omega), wi_n (by omega) (by omega), decide_eq_true ha, decide_eq_true hb, hs] at e
  cases e
theorem c_fm {c a : Int32} {n : Nat} (e : fm_v c a = false) (ha : a = nI n) (hk : fm_k c n) : False := by
  have d : ¬ (115 : Int32) = 97 := by decide +kernel
  have d2 : ¬ (111 : Int32) = 97 := by decide +kernel
  have d3 : ¬ (111 : Int32) = 115 := by decide +kernel
  have d4 : ¬ (99 : Int32) = 97 := by decide +kernel
  have d5 : ¬ (99 : Int32) = 115 := by decide +kernel
  have d6 : ¬ (99 : Int32) = 111 := by decide +kernel
  rw [ha] at e
  unfold fm_v at e
  rcases hk with ⟨rfl, h1, h2⟩ | ⟨rfl, h1, h2⟩ | ⟨rfl, h1, h2⟩ | ⟨rfl, h1, h2⟩
  · rw [if_pos rfl] at e
    have := fi_ok (a := 1) (b := 4) h1 h2 (by omega)
    exact absurd (this.symm.trans e) (by decide)
  · rw [if_neg d, if_pos rfl] at e
    have := fi_ok (a := 1) (b := 8) h1 h2 (by omega)
    exact absurd (this.symm.trans e) (by decide)
  · rw [if_neg d2, if_neg d3, if_pos rfl] at e
    have := fi_ok (a := 3) (b := 8) h1 h2 (by omega)
    exact absurd (this.symm.trans e) (by decide)
  · rw [if_neg d4, if_neg d5, if_neg d6, if_pos rfl] at e
    have := fi_ok (a := 2) (b := 8) h1 h2 (by omega)
    exact absurd (this.symm.trans e) (by decide)
theorem c_bd {a b : Nat} (e : (fi 1 8 x && fi 1 8 y) = false) (hx : x = nI a) (hy : y = nI b) (h1 : 1 ≤ a) (h2 : a ≤ 8) (h3 : 1 ≤ b) (h4 : b ≤ 8) : False := by
  have e1 := fi_ok (a := 1) (b := 8) h1 h2 (by omega)
  have e2 := fi_ok (a := 1) (b := 8) h3 h4 (by omega)
  have e : (fi ((1 : Nat) : Int) ((8 : Nat) : Int) x && fi ((1 : Nat) : Int) ((8 : Nat) : Int) y) = false := e
  rw [hx, hy, e1, e2] at e
  cases e
theorem st2_u {X Y : Int32} {a b a' b' : Nat} (h1 : st2 X Y a b) (h2 : st2 X Y a' b') : a' = a ∧ b' = b := by
  obtain ⟨x1, x2, x3, x4, x5⟩ := h1
  obtain ⟨y1, y2, y3, y4, y5⟩ := h2
  exact ⟨nI_u (by omega) (by omega) (y4.symm.trans x4), nI_u (by omega) (by omega) (y5.symm.trans x5)⟩
theorem st1_u {X : Int32} {a a' : Nat} (h1 : st1 X a) (h2 : st1 X a') : a' = a := nI_u (by have := h2.2.1; omega) (by have := h1.2.1; omega) (h2.2.2.symm.trans h1.2.2)
theorem sOrd_b {w : Nat} (h1 : 1 ≤ w) (h2 : w ≤ 6) : sOrd w < 1000 := by
  have : ∀ a : Fin 6, sOrd (a.val + 1) < 1000 := by decide +kernel
  have e := this ⟨w - 1, by omega⟩
  have e2 : w - 1 + 1 = w := by omega
  rw [← e2]; exact e
theorem st3_u {X Y : Int32} {a b a' b' : Nat} (h1 : st3 X Y a b) (h2 : st3 X Y a' b') : a' = a ∧ b' = b := by
  obtain ⟨x1, x2, x3, x4, x5⟩ := h1
  obtain ⟨y1, y2, y3, y4, y5⟩ := h2
  have k1 := sOrd_b x1 x2
  have k2 := sOrd_b y1 y2
  have e := nI_u (by omega) (by omega) (y5.symm.trans x5)
  exact ⟨nI_u (by omega) (by omega) (y4.symm.trans x4), by omega⟩
theorem h3_u {X Y V : Int32} {a b c a' b' c' : Nat} (h1 : h3 X Y V a b c) (h2 : h3 X Y V a' b' c') : a' = a ∧ b' = b ∧ c' = c := by
  obtain ⟨x1, x2, x3, x4, x5, x6, x7, x8, x9⟩ := h1
  obtain ⟨y1, y2, y3, y4, y5, y6, y7, y8, y9⟩ := h2
  exact ⟨nI_u (by omega) (by omega) (y7.symm.trans x7), nI_u (by omega) (by omega) (y8.symm.trans x8), nI_u (by omega) (by omega) (y9.symm.trans x9)⟩
theorem pcc_u {X Y : Int32} {a b a' b' : Nat} (h1 : pcc X Y a b) (h2 : pcc X Y a' b') : a' = a ∧ b' = b := by
  obtain ⟨x1, x2, x3, x4⟩ := h1
  obtain ⟨y1, y2, y3, y4⟩ := h2
  exact ⟨nI_u (by omega) (by omega) (y3.symm.trans x3), nI_u (by omega) (by omega) (y4.symm.trans x4)⟩
theorem pcn_u {X Y D : Int32} {a b o a' b' o' : Nat} (hw : w ≤ 8) (hh : h ≤ 8) (h1 : pcn w h r S X Y D a b o) (h2 : pcn w h r S X Y D a' b' o') : a' = a ∧ b' = b ∧ o' = o := by
  obtain ⟨x1, x2, x3, x4, x5, x6, x7⟩ := h1
  obtain ⟨y1, y2, y3, y4, y5, y6, y7⟩ := h2
  have e1 : a' = a := nI_u (by omega) (by omega) (y1.symm.trans x1)
  have e2 : b' = b := nI_u (by omega) (by omega) (y2.symm.trans x2)
  subst e1
  subst e2
  exact ⟨rfl, rfl, Option.some.inj (y6.symm.trans x6)⟩
theorem kmn_u {X : Int32} {a a' : Nat} (h1 : kmn X a) (h2 : kmn X a') : a' = a := nI_u (by have := h2.2.1; omega) (by have := h1.2.1; omega) (h2.2.2.symm.trans h1.2.2)
def PJc : List (Nat × Nat) := [(0, 64), (0, 65), (0, 66), (1, 67), (0, 3265), (0, 3266), (0, 3267), (2, 52), (0, 516), (0, 3272), (1, 517), (1, 518), (2, 56), (0, 519), (0, 3274), (1, 520), (1, 521), (2, 57), (0, 522), (0, 3276), (2, 11), (2, 58), (3, 9), (3, 10), (2, 59), (0, 68), (0, 1478), (0, 1477), (2, 25), (2, 26), (2, 27), (3, 24), (0, 3290), (2, 68), (2, 67), (3, 69), (1, 1476), (1, 3289)]
/-- the caches and the text are new -/
theorem Jj_c (g : fr F z z') (nn : ∀ x, x ∈ PJc → x ∉ F) (ht : jtxt z') (h1 : tq_fi z' 134 = tq_fi z 134 ∨ tq_fi z' 134 = tq_fi z 68) (h2 : tq_fi z' 135 = tq_fi z 135 ∨ tq_fi z' 135 = tq_fi z 68) (h3 : tq_fi z' 1220 = tq_fi z 1220 ∨ tq_fi z' 1220 = tq_fi z 68) (h4 : tq_fi z' 1807 = tq_fi z 1807 ∨ tq_fi z' 1807 = tq_fi z 68) (h5 : tq_fi z' 1808 = tq_fi z 1808 ∨ tq_fi z' 1808 = tq_fi z 1478) (a1 : jfro w h r S z') (a2 : jhav w h r S z') (a3 : jpr w r S z') (a4 : jexc w h r S kN C M Z A z') (hh : Jj n w h r S kN C M Z A T z) : Jj (n + 1) w h r S kN C M Z A T z' := by
  obtain ⟨a, b, c, d, -, i, -, -, -, -, o⟩ := hh
  have s : ∀ {L : List (Nat × Nat)}, (∀ x, x ∈ L → x ∈ PJc) → ∀ x, x ∈ L → x ∉ F := fun hL x hx => nn x (hL x hx)
  exact ⟨jbrd_f g (s (by decide)) a, jcov_f g (s (by decide)) b, jkep_f g (s (by decide)) c, jund_f g (s (by decide)) d, ht, jS_g g (nn _ (by decide)) (nn _ (by decide)) h1 h2 h3 h4 h5 i, a1, a2, a3, a4, jkin_f g (s (by decide)) o⟩
def PJv : List (Nat × Nat) := [(0, 64), (0, 65), (0, 66), (1, 67), (0, 3265), (0, 3266), (0, 3267), (2, 52), (0, 13), (2, 50), (0, 3279), (2, 60), (0, 68), (0, 1478), (0, 135), (0, 1220), (0, 1807), (0, 1808), (3, 7), (1, 1221), (1, 1222), (1, 1223), (0, 1804), (2, 31), (2, 32), (0, 1806), (2, 33), (3, 29), (2, 30), (0, 1805), (3, 34), (3, 35), (1, 1809), (3, 36), (1, 1810), (0, 1477), (2, 25), (2, 26), (2, 27), (3, 24), (0, 3290), (2, 68), (2, 67), (3, 69), (1, 1476), (1, 3289)]
/-- the covers, what can be undone, and the counts' cache are new -/
theorem Jj_v (g : fr F z z') (nn : ∀ x, x ∈ PJv → x ∉ F) (hc : jcov w r S z') (hk : jkep w r S z') (hu : jund w r S z') (h1 : tq_fi z' 134 = tq_fi z 134 ∨ tq_fi z' 134 = tq_fi z 68) (a1 : jfro w h r S z') (hh : Jj n w h r S kN C M Z A T z) : Jj (n + 1) w h r S kN C M Z A T z' := by
  obtain ⟨a, -, -, -, t, i, -, k, l, m, o⟩ := hh
  have s : ∀ {L : List (Nat × Nat)}, (∀ x, x ∈ L → x ∈ PJv) → ∀ x, x ∈ L → x ∉ F := fun hL x hx => nn x (hL x hx)
  exact ⟨jbrd_f g (s (by decide)) a, hc, hk, hu, jtxt_f g (s (by decide)) t, jS_g g (nn _ (by decide)) (nn _ (by decide)) h1 (Or.inl (fr_fi g (nn (0, 135) (by decide)))) (Or.inl (fr_fi g (nn (0, 1220) (by decide)))) (Or.inl (fr_fi g (nn (0, 1807) (by decide)))) (Or.inl (fr_fi g (nn (0, 1808) (by decide)))) i, a1, jhav_f g (s (by decide)) k, jpr_f g (s (by decide)) l, jexc_f g (s (by decide)) m, jkin_f g (s (by decide)) o⟩
/-- a new board -/
theorem Jj_n {w' h' : Nat} {r' : Bool} {S' : Nat → Bool} (hn : n < 512) (hd' : jd w' h' r' S') (c1 : nc w' h' r' S' z z1) (g2 : fr [(3, 87)] z1 z2) (c3 : nr w' h' r' S' z2 z3) (hh : Jj n w h r S kN C M Z A T z) : Jj (n + 1) w' h' r' S' kN C M Z A T z3 := by
  obtain ⟨-, -, -, -, t, ⟨c, d, s1, s2, s3, s4, s5, s6, s7, s8, s9⟩, -, -, -, -, o⟩ := hh
  obtain ⟨f1, x1, x2, x3, x4, x5⟩ := c1
  obtain ⟨f3, y1, y2, y3, y4, y5⟩ := c3
  have g13 : fr ([(3, 87)] ++ FR) z1 z3 := gl_2 g2 f3
  have g : fr (FC ++ [(3, 87)] ++ FR) z z3 := gl_c f1 g2 f3
  have e68 : tq_fi z3 68 = nI (c + 1) := by rw [fr_fi g13 (by decide), x2, s3, i_1, i_add]
  have no : ∀ k, (0, k) ∉ FC ++ [(3, 87)] ++ FR → sp (tq_fi z k) c → ¬ tq_fi z3 k = tq_fi z3 68 := by
    intro k hk hs e
    rw [fr_fi g hk, e68] at e
    exact sp_no (by omega) hs e
  refine ⟨⟨hd', jc_f g13 (by decide) (by decide) (by decide) (by decide) x1, y1⟩, ⟨false, fun j => j, ?_, y3, fun q => by cases q⟩, ⟨false, fun j => j, ?_, y4, fun q => by cases q⟩, ⟨0, by omega, ?_, y5, fun k hk => absurd hk (by omega)⟩, jtxt_f g (by decide) t, ⟨c + 1, d, by omega, by omega, e68, ?_, ?_, ?_, ?_, ?_, ?_⟩, fun e => absurd e (no 134 (by decide) s5), fun e => absurd e (no 135 (by decide) s6), fun e => absurd e (no 1220 (by decide) s7), fun e => absurd e (no 1807 (by decide) s8), jkin_f g (by decide) o⟩
  · rw [fr_fi g13 (by decide)]; exact x3
  · rw [fr_fi g13 (by decide)]; exact x4
  · rw [fr_fi g13 (by decide)]; exact x5
  · rw [fr_fi g (by decide)]; exact s4
  · rw [fr_fi g (by decide)]; exact sp_m (by omega) s5
  · rw [fr_fi g (by decide)]; exact sp_m (by omega) s6
  · rw [fr_fi g (by decide)]; exact sp_m (by omega) s7
  · rw [fr_fi g (by decide)]; exact sp_m (by omega) s8
  · rw [fr_fi g (by decide)]; exact s9
theorem jund_n (hu10 : u ≤ 10) (hu : ∀ k, k < u → ∃ b p, tq_ai z 11 k = bi b ∧ tq_ai z 58 k = bi b ∧ (b = true → cvo w r S p (tq_al z 9 k) (tq_al z 10 k) ∧ rto w r S (fun _ => false) p (fun j => tq_ai z 59 (64 * k + j)))) (cov : b0 = true → cvo w r S p (tq_fl z 517) (tq_fl z 518) ∧ rto w r S (fun _ => false) p (tq_ai z 56)) (cu : utk u b0 z z1) (ru : urk u b0 z2 z3) (e1 : tq_ai z3 11 = tq_ai z1 11) (e2 : tq_al z3 9 = tq_al z1 9) (e3 : tq_al z3 10 = tq_al z1 10) (e4 : tq_fi z3 522 = tq_fi z1 522) (d1 : tq_ai z2 58 = tq_ai z 58) (d2 : tq_ai z2 59 = tq_ai z 59) (d3 : tq_ai z2 56 = tq_ai z 56) : jund w r S z3 := by
  refine ⟨ul u + 1, by unfold ul; split <;> omega, e4.trans cu.1, ru.1, fun k hk => ?_⟩
  by_cases q : k < ul u
  · have hlt : us u k < u := by unfold us; unfold ul at q; split <;> split at q <;> omega
    obtain ⟨b, p', x1, x2, x3⟩ := hu (us u k) hlt
    obtain ⟨y1, y2, y3⟩ := cu.2.1 k q
    obtain ⟨v1, v2⟩ := ru.2.1 k q
    refine ⟨b, p', by rw [e1, y1]; exact x1, by rw [v1, d1]; exact x2, fun hb => ⟨by rw [e2, e3, y2, y3]; exact (x3 hb).1, fun j hj hs ht => v2 j hj _ (by have := tc_lt (w := w) (r := r) (p := p') (j := j); omega) (by rw [d2]; exact (x3 hb).2 j hj hs ht)⟩⟩
  · have ek : k = ul u := by omega
    subst ek
    obtain ⟨y0, y1, y2, y3, y4⟩ := cu
    obtain ⟨v0, v1, v2, v3⟩ := ru
    refine ⟨b0, p, by rw [e1]; exact y2, v2, fun hb => ⟨by rw [e2, e3, y3, y4]; exact (cov hb).1, fun j hj hs ht => v3 j hj _ (by have := tc_lt (w := w) (r := r) (p := p) (j := j); omega) (by rw [d3]; exact (cov hb).2 j hj hs ht)⟩⟩
end GLV
