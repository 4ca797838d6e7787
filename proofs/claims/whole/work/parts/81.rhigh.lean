/-! ===== heights of the reference: the search, the calls ===== -/
section RHIGH2
variable {w h : Nat} {r : Bool} {S : Nat → Bool} {p p' : Nat → Nat} {H H' : Nat → Int} {z : tq_S} {Q : tq_O → tq_S → Prop}
/-- what is added along the k-th side of a corner -/
theorem i_mm {a : Nat} (h : 1 ≤ a) : nI a + -nI 1 = nI (a - 1) := i_m1 h
/-- one side of the corner that is looked at -/
theorem sq_rside {s0 : Nat → Bool} {A0 : Nat → Int32} {s n i k : Nat} {g : Nat → Nat} {U : Nat → Bool} {B32 B65 : Int32 → Int32 → tq_S → Prop} {v NX NY : Int32} (hp : pot w S p H) (hb0 : ∀ v, s0 v = true → -300 ≤ (A0 v).toInt ∧ (A0 v).toInt ≤ 300) (hh : hb S H s0 A0 1000000 s n g U (tq_ai z 63) (tq_ai z 65)) (hi : i < n) (hk : k < 4) (hv : (sdc S (g i) k = false ∧ v = 1000000) ∨ (sdc S (g i) k = true ∧ v.toInt = icr w S p (g i) k ∧ (9 : Int32) * NY + NX = nI (toc (g i) k))) (kk : ∀ z' n' g' U', fr [(2, 63), (2, 65)] z z' → hb S H s0 A0 1000000 s n' g' U' (tq_ai z' 63) (tq_ai z' 65) → n ≤ n' → (∀ j, j < n → g' j = g j) → (∀ v, U v = true → U' v = true) → (sdc S (g i) k = true → U' (toc (g i) k) = true) → B65 (nI n') (nI (k + 1)) z') : wc_X12_tellFrom_212 B32 B65 Q (nI n) (nI i) (nI (g i % 9)) (nI (g i / 9)) (nI k) NX NY v z := by
  have b := hh.2.2.1 i hi
  have v81 := cnr_81 b.2.1
  have n81 := hb_81 hh
  have stay : (sdc S (g i) k = true → U (toc (g i) k) = true) → wc_X12_tellFrom_287 B32 B65 Q (nI n) (nI i) (nI (g i % 9)) (nI (g i / 9)) (nI k) z := by
    intro e
    unfold wc_X12_tellFrom_287
    intro v2 e2
    rw [i_1, i_add] at e2
    rw [e2]
    exact kk z n g U fr_r hh (Nat.le_refl _) (fun _ _ => rfl) (fun _ h => h) e
  unfold wc_X12_tellFrom_212
  rcases hv with ⟨hs, rfl⟩ | ⟨hs, hX, hT⟩
  · exact ⟨fun _ => stay (fun e => by rw [hs] at e; cases e), fun e => absurd rfl e⟩
  · have t81 := (sd_to v81 hk hs).1
    have ib := icr_b (w := w) (S := S) (p := p) (v := g i) (k := k)
    have ne : ¬ v = 1000000 := fun e => by
      have := congrArg Int32.toInt e
      have e3 : (1000000 : Int32).toInt = 1000000 := by decide +kernel
      rw [hX, e3] at this; omega
    refine ⟨fun e => absurd e ne, fun _ => ?_⟩
    have eI : (9 : Int32) * nI (g i / 9) + nI (g i % 9) = nI (g i) := by
      rw [i_9, pk_mul, i_add]; congr 1; omega
    rw [hT, eI, i_cl (by omega), i_cl (by omega)]
    refine ⟨i_in (by omega) (by omega), fun e => stay (fun _ => ?_), fun e => ?_⟩
    · cases hU : U (toc (g i) k)
      · exact absurd (hh.1 _ t81 hU) e
      · rfl
    · have hU : U (toc (g i) k) = false := by
        cases hU : U (toc (g i) k)
        · rfl
        · exfalso
          have e2 := congrArg Int32.toInt e
          have e3 : (1000000 : Int32).toInt = 1000000 := by decide +kernel
          rw [e3] at e2
          rcases hh.2.2.2.1 _ hU with q | ⟨j, hj, hg⟩
          · have := hb0 _ q
            rw [(hh.2.1 _ q).2] at e2
            omega
          · have := hh.2.2.1 j hj
            rw [hg] at this
            omega
      have hh2 := hb_1 hp hh hi hk hs hU hX
      refine ⟨i_in (by omega) (by omega), i_in (by omega) (by omega), fun z2 e2 => ⟨i_in hh2.1 (by omega), fun z3 e3 v4 e4 => ?_⟩⟩
      rw [i_cl (by omega)] at e3
      have a1 : tq_ai z3 63 = upd (tq_ai z 63) (toc (g i) k) (tq_ai z 63 (g i) + v) := by rw [e3, rw_ain (by omega), e2, rw_aie]
      have a2 : tq_ai z3 65 = upd (tq_ai z 65) n (nI (toc (g i) k)) := by rw [e3, rw_aie, e2, rw_ain (by omega)]
      rw [i_1, i_add] at e4
      rw [e4]
      unfold wc_X12_tellFrom_287
      intro v2 e5
      rw [i_1, i_add] at e5
      rw [e5]
      refine kk z3 (n + 1) _ _ (by rw [e3]; refine fr_sai (by decide) ?_; rw [e2]; exact fr_sai (by decide) fr_r) (by rw [a1, a2]; exact hh2.2) (by omega) (fun j hj => ?_) (fun v hv => un_o hv) (fun _ => un_e)
      show (if j = n then toc (g i) k else g j) = g j
      rw [if_neg (by omega)]
/-- the four sides -/
theorem sq_rsides {s0 : Nat → Bool} {A0 : Nat → Int32} {s n i k : Nat} {g : Nat → Nat} {U : Nat → Bool} {B32 B65 : Int32 → Int32 → tq_S → Prop} (hd : jd w h false S) (hj : jr w h false S z) (hpc : pc w false S p) (ht : rto w false S (fun _ => false) p (tq_ai z 56)) (hp : pot w S p H) (hb0 : ∀ v, s0 v = true → -300 ≤ (A0 v).toInt ∧ (A0 v).toInt ≤ 300) (hh : hb S H s0 A0 1000000 s n g U (tq_ai z 63) (tq_ai z 65)) (hi : i < n) (hk : k < 4) (kk : ∀ z' n' g' U', fr [(2, 63), (2, 65)] z z' → hb S H s0 A0 1000000 s n' g' U' (tq_ai z' 63) (tq_ai z' 65) → n ≤ n' → (∀ j, j < n → g' j = g j) → (∀ v, U v = true → U' v = true) → (sdc S (g i) k = true → U' (toc (g i) k) = true) → B65 (nI n') (nI (k + 1)) z') : wb_X12_tellFrom_65 B32 B65 Q (nI n) (nI i) (nI (g i % 9)) (nI (g i / 9)) (nI k) z := by
  have b := hh.2.2.1 i hi
  have v81 := cnr_81 b.2.1
  have vx : g i % 9 ≤ 8 := by omega
  have vy : g i / 9 ≤ 8 := by omega
  obtain ⟨x, hx⟩ : ∃ x, x = g i % 9 := ⟨_, rfl⟩
  obtain ⟨y, hy⟩ : ∃ y, y = g i / 9 := ⟨_, rfl⟩
  have gxy : g i = 9 * y + x := by omega
  have tx : (nI x).toInt = (x : Int) := i_ti (by omega)
  have ty : (nI y).toInt = (y : Int) := i_ti (by omega)
  have m1 : (-1 : Int32).toInt = -1 := by decide +kernel
  have tx1 : (nI x - (1 : Int32)).toInt = (x : Int) - 1 := by rw [nu_sub (by rw [tx, i_t1]; omega) (by rw [tx, i_t1]; omega), tx, i_t1]
  have ty1 : (nI y - (1 : Int32)).toInt = (y : Int) - 1 := by rw [nu_sub (by rw [ty, i_t1]; omega) (by rw [ty, i_t1]; omega), ty, i_t1]
  have q0 : ∀ c, c = 0 ∨ c = 1 ∨ c = 2 ∨ c = 3 → c < 4 := fun c h => by omega
  have go := fun {v NX NY} hv => sq_rside (k := k) (B32 := B32) (B65 := B65) (v := v) (NX := NX) (NY := NY) (Q := Q) hp hb0 hh hi hk hv kk
  rw [← hx, ← hy] at go ⊢
  have ek : k = 0 ∨ k = 1 ∨ k = 2 ∨ k = 3 := by omega
  have i3 : (3 : Int32) = nI 3 := rfl
  unfold wb_X12_tellFrom_65
  rw [i_4, i_le (by omega) (by omega), i_0, i_1, i_eq (by omega) (by omega), i_eq (by omega) (by omega)]
  refine ⟨fun q => by omega, fun _ => ?_⟩
  unfold wc_X12_tellFrom_93
  rw [i_2, i3, i_eq (by omega) (by omega), i_eq (by omega) (by omega)]
  unfold wc_X12_tellFrom_119
  rw [i_0, i_1, i_2, i_eq (by omega) (by omega), i_eq (by omega) (by omega), i_eq (by omega) (by omega)]
  rcases ek with rfl | rfl | rfl | rfl
  · -- to the right
    refine ⟨fun u => absurd rfl u, fun _ v1 e1 => ⟨fun _ => ⟨fun _ v2 e2 => ⟨fun u => absurd rfl u, fun _ => ?_⟩, fun u => by omega⟩, fun u => by omega⟩⟩
    refine sq_along (lx := x + 1) (ly := y) (rx := x + 1) (ry := y + 1) hd hj hpc ht (by rw [tx]; omega) ty1 (by rw [tx]; omega) (by rw [ty]; omega) (by omega) (by omega) (by omega) (by omega) (fun e => ⟨_, rfl, go (Or.inl ⟨?_, rfl⟩)⟩) (fun v e ev => ⟨_, rfl, go (Or.inr ⟨?_, ?_, ?_⟩)⟩)
    · rw [sdc_0, ← hx, ← hy]; exact e
    · rw [sdc_0, ← hx, ← hy]; exact e
    · rw [ev]
      show _ = ho0 S p (g i % 9 + 1) (g i / 9)
      rw [← hx, ← hy]
      exact al_0 hd hpc (by omega) (by omega)
    · rw [e1, e2, i_add, i_add, i_9, pk_mul, i_add]
      show _ = nI (g i + 1)
      congr 1; omega
  · -- to the left
    refine ⟨fun _ => ⟨fun u => absurd rfl u, fun _ v1 e1 => ⟨fun _ => ⟨fun _ v2 e2 => ⟨fun _ => ⟨fun u => absurd rfl u, fun _ => ?_⟩, fun u => by omega⟩, fun u => by omega⟩, fun u => by omega⟩⟩, fun u => by omega⟩
    refine sq_along (lx := x) (ly := y + 1) (rx := x) (ry := y) hd hj hpc ht tx1 (by rw [ty]; omega) tx1 ty1 (by omega) (by omega) (by omega) (by omega) (fun e => ⟨_, rfl, go (Or.inl ⟨?_, rfl⟩)⟩) (fun v e ev => ⟨_, rfl, go (Or.inr ⟨?_, ?_, ?_⟩)⟩)
    · rw [sdc_1, ← hx, ← hy, Bool.or_comm]; exact e
    · rw [sdc_1, ← hx, ← hy, Bool.or_comm]; exact e
    · rw [ev]
      show _ = -ho0 S p (g i % 9) (g i / 9)
      rw [← hx, ← hy]
      exact al_1 hd hpc (by omega) (by omega)
    · have hs1 : sdc S (g i) 1 = true := by rw [sdc_1, ← hx, ← hy, Bool.or_comm]; exact e
      rcases (sd_to v81 (by omega) hs1).2 with ⟨u, -⟩ | ⟨-, u1, u2, u3, u4⟩ | ⟨u, -⟩ | ⟨u, -⟩
      · omega
      · rw [e1, e2, i_add, i_mm (by omega), i_9, pk_mul, i_add, u1]
        congr 1; omega
      · omega
      · omega
  · -- downward
    refine ⟨fun _ => ⟨fun _ v1 e1 => ⟨fun u => absurd rfl u, fun _ v2 e2 => ⟨fun _ => ⟨fun _ => ⟨fun u => absurd rfl u, fun _ => ?_⟩, fun u => by omega⟩, fun u => by omega⟩⟩, fun u => by omega⟩, fun u => by omega⟩
    refine sq_along (lx := x + 1) (ly := y + 1) (rx := x) (ry := y + 1) hd hj hpc ht (by rw [tx]; omega) (by rw [ty]; omega) tx1 (by rw [ty]; omega) (by omega) (by omega) (by omega) (by omega) (fun e => ⟨_, rfl, go (Or.inl ⟨?_, rfl⟩)⟩) (fun v e ev => ⟨_, rfl, go (Or.inr ⟨?_, ?_, ?_⟩)⟩)
    · rw [sdc_2, ← hx, ← hy, Bool.or_comm]; exact e
    · rw [sdc_2, ← hx, ← hy, Bool.or_comm]; exact e
    · rw [ev]
      show _ = ve0 w S p (g i % 9) (g i / 9 + 1)
      rw [← hx, ← hy]
      exact al_2 hd hpc (by omega) (by omega)
    · rw [e1, e2, i_add, i_add, i_9, pk_mul, i_add]
      show _ = nI (g i + 9)
      congr 1; omega
  · -- upward
    refine ⟨fun _ => ⟨fun _ v1 e1 => ⟨fun _ => ⟨fun u => absurd rfl u, fun _ v2 e2 => ⟨fun _ => ⟨fun _ => ⟨fun _ => ?_, fun u => by omega⟩, fun u => by omega⟩, fun u => by omega⟩⟩, fun u => by omega⟩, fun u => by omega⟩, fun u => by omega⟩
    refine sq_along (lx := x) (ly := y) (rx := x + 1) (ry := y) hd hj hpc ht tx1 ty1 (by rw [tx]; omega) ty1 (by omega) (by omega) (by omega) (by omega) (fun e => ⟨_, rfl, go (Or.inl ⟨?_, rfl⟩)⟩) (fun v e ev => ⟨_, rfl, go (Or.inr ⟨?_, ?_, ?_⟩)⟩)
    · rw [sdc_3, ← hx, ← hy]; exact e
    · rw [sdc_3, ← hx, ← hy]; exact e
    · rw [ev]
      show _ = -ve0 w S p (g i % 9) (g i / 9)
      rw [← hx, ← hy]
      exact al_3 hd hpc (by omega) (by omega)
    · have hs1 : sdc S (g i) 3 = true := by rw [sdc_3, ← hx, ← hy]; exact e
      rcases (sd_to v81 (by omega) hs1).2 with ⟨u, -⟩ | ⟨u, -⟩ | ⟨u, -⟩ | ⟨-, u1, u2, u3, u4⟩
      · omega
      · omega
      · omega
      · rw [e1, e2, i_add, i_mm (by omega), i_9, pk_mul, i_add, u1]
        congr 1; omega
theorem sq_tellFrom {U0 : Nat → Bool} {s : Nat} (hd : jd w h false S) (hj : jr w h false S z) (hpc : pc w false S p) (ht : rto w false S (fun _ => false) p (tq_ai z 56)) (hp : pot w S p H) (ho : hO S H 1000000 s U0 (tq_ai z 63)) (hs : cnr S s = true) (h0 : U0 s = false) (kk : ∀ z' U', fr [(2, 63), (2, 65)] z z' → hO S H 1000000 (s + 1) U' (tq_ai z' 63) → Q (.inl none) z') : wm_X12_tellFrom (nI (s % 9)) (nI (s / 9)) z Q := by
  have s81 := cnr_81 hs
  have eI : (9 : Int32) * nI (s / 9) + nI (s % 9) = nI s := by
    rw [i_9, pk_mul, i_add]; congr 1; omega
  unfold wm_X12_tellFrom
  rw [eI, i_cl (by omega)]
  have c0 : Int32.toNatClampNeg 0 = 0 := rfl
  rw [c0]
  refine ⟨i_in (by omega) (by omega), fun z1 e1 z2 e2 v3 e3 => ?_⟩
  have e3 : v3 = nI 1 := e3
  rw [e3]
  have f2 : fr [(2, 63), (2, 65)] z z2 := by rw [e2]; refine fr_sai (by decide) ?_; rw [e1]; exact fr_sai (by decide) fr_r
  have hb2 : hb S H U0 (tq_ai z 63) 1000000 s 1 (fun _ => s) (un U0 s) (tq_ai z2 63) (tq_ai z2 65) := by
    have a1 : tq_ai z2 63 = upd (tq_ai z 63) s 0 := by rw [e2, rw_ain (by omega), e1, rw_aie]
    have a2 : tq_ai z2 65 = upd (tq_ai z 65) 0 (nI s) := by rw [e2, rw_aie, e1, rw_ain (by omega)]
    rw [a1, a2]
    exact hb_0 hs h0 ho.1
  have hb0 : ∀ v, U0 v = true → -300 ≤ (tq_ai z 63 v).toInt ∧ (tq_ai z 63 v).toInt ≤ 300 := fun v hv => (ho.2.2.2.2 v hv).2
  clear e1 e2 e3
  unfold wc_X12_tellFrom_32
  refine lp_inv (fun i t => ∃ n g U z', t = (nI n, nI i, z') ∧ fr [(2, 63), (2, 65)] z z' ∧ hb S H U0 (tq_ai z 63) 1000000 s n g U (tq_ai z' 63) (tq_ai z' 65) ∧ i ≤ n ∧ 0 < n ∧ g 0 = s ∧ ∀ j, j < i → ∀ k, k < 4 → sdc S (g j) k = true → U (toc (g j) k) = true) 81 ?_ ⟨1, _, _, z2, rfl, f2, hb2, by omega, by omega, rfl, fun j hj => by omega⟩
  rintro i t hi ⟨n, g, U, z3, rfl, f3, hb3, hin, hn0, hg0, hdone⟩ B hB
  simp only
  have n81 := hb_81 hb3
  unfold wb_X12_tellFrom_32
  rw [i_le (by omega) (by omega)]
  refine ⟨fun q => kk z3 U f3 (hO_b ho hs h0 hb3 hn0 hg0 (fun j hj k hk hsd => hdone j (by omega) k hk hsd)), fun q => ?_⟩
  have hin : i < n := by omega
  have hB := hB (by omega)
  have b := hb3.2.2.1 i hin
  have v81 := cnr_81 b.2.1
  rw [i_cl (by omega), b.1, i_9, pk_rem (by omega) (by omega) (by omega), pk_div (by omega) (by omega) (by omega)]
  refine ⟨i_in (by omega) (by omega), fun v1 e1 => ⟨i_in (by omega) (by omega), fun v2 e2 => ?_⟩⟩
  rw [e1, e2]
  unfold wc_X12_tellFrom_65
  refine lp_inv (fun k t => ∃ n' g' U' z', t = (nI n', nI k, z') ∧ fr [(2, 63), (2, 65)] z z' ∧ hb S H U0 (tq_ai z 63) 1000000 s n' g' U' (tq_ai z' 63) (tq_ai z' 65) ∧ n ≤ n' ∧ (∀ j, j < n → g' j = g j) ∧ (∀ v, U v = true → U' v = true) ∧ ∀ k', k' < k → sdc S (g i) k' = true → U' (toc (g i) k') = true) 4 ?_ ⟨n, g, U, z3, rfl, f3, hb3, Nat.le_refl _, fun _ _ => rfl, fun _ h => h, fun k hk => by omega⟩
  rintro k t hk ⟨n', g', U', z4, rfl, f4, hb4, m4, s4, u4, d4⟩ B2 hB2
  simp only
  have gi := s4 i hin
  by_cases k4 : k = 4
  · subst k4
    unfold wb_X12_tellFrom_65
    refine ⟨fun _ => ?_, fun u => absurd (show (4 : Int32) ≤ nI 4 by rw [i_4, i_le (by omega) (by omega)]; omega) u⟩
    unfold wc_X12_tellFrom_293
    intro v e
    rw [i_1, i_add] at e
    rw [e]
    refine hB _ ⟨n', g', U', z4, rfl, f4, hb4, by omega, by omega, by rw [s4 0 hn0]; exact hg0, fun j hj k hk hsd => ?_⟩
    by_cases e : j = i
    · rw [e] at hsd ⊢
      rw [gi] at hsd ⊢
      exact d4 k (by omega) hsd
    · rw [s4 j (by omega)] at hsd ⊢
      exact u4 _ (hdone j (by omega) k hk hsd)
  · have j4 := jr_f f4 (by decide) (by decide) (by decide) (by decide) hj
    rw [← gi]
    refine sq_rsides hd j4 hpc (by rw [fr_ai f4 (by decide)]; exact ht) hp hb0 hb4 (by omega) (by omega) (fun z5 n5 g5 U5 f5 hb5 m5 s5 u5 d5 => ?_)
    refine hB2 (by omega) _ ⟨n5, g5, U5, z5, rfl, fr_t f4 f5, hb5, by omega, fun j hj => by rw [s5 j (by omega)]; exact s4 j hj, fun v hv => u5 v (u4 v hv), fun k' hk' hsd => ?_⟩
    by_cases e : k' = k
    · rw [e] at hsd ⊢
      rw [gi] at d5
      exact d5 hsd
    · exact u5 _ (d4 k' (by omega) hsd)
theorem sq_rCorner {x y : Nat} (hd : jd w h false S) (hj : jr w h false S z) (hx : x ≤ w) (hy : y ≤ h) (k : Q (.inl (some (.int (bi (cnr S (9 * y + x)))))) z) : wm_X12_isCorner (nI x) (nI y) z Q := by
  have hw8 := hd.2.1
  have hh8 := hd.2.2.2.1
  rw [cnr_xy (by omega) (by omega)] at k
  have tx : (nI x).toInt = (x : Int) := i_ti (by omega)
  have ty : (nI y).toInt = (y : Int) := i_ti (by omega)
  have tx1 : (nI x - (1 : Int32)).toInt = (x : Int) - 1 := by rw [nu_sub (by rw [tx, i_t1]; omega) (by rw [tx, i_t1]; omega), tx, i_t1]
  have ty1 : (nI y - (1 : Int32)).toInt = (y : Int) - 1 := by rw [nu_sub (by rw [ty, i_t1]; omega) (by rw [ty, i_t1]; omega), ty, i_t1]
  have in1 : fi (0 : Int32).toInt (tq_fi z 3265).toInt (nI x) = true := by rw [hj.1.1]; exact (fi_ex (l := 0) (u := w) (by omega) (by omega)).mpr ⟨x, by omega, hx, rfl⟩
  have in2 : fi (0 : Int32).toInt (tq_fi z 3266).toInt (nI y) = true := by rw [hj.1.2.1]; exact (fi_ex (l := 0) (u := h) (by omega) (by omega)).mpr ⟨y, by omega, hy, rfl⟩
  unfold wm_X12_isCorner
  refine sq_isIn ⟨_, rfl, fun q => absurd q (bi_n.mpr in1), fun _ => ?_⟩
  refine sq_isIn ⟨_, rfl, fun q => absurd q (bi_n.mpr in2), fun _ => ?_⟩
  refine sq_cellG (x := x + 1) (y := y + 1) hd hj (by rw [tx]; omega) (by rw [ty]; omega) ⟨_, rfl, fun q1 => ?_, fun q1 => ?_⟩
  · rw [bi_n] at q1
    rw [q1, Bool.or_true] at k; exact k
  rw [bi_0] at q1
  refine sq_cellG (x := x) (y := y + 1) hd hj tx1 (by rw [ty]; omega) ⟨_, rfl, fun q2 => ?_, fun q2 => ?_⟩
  · rw [bi_n] at q2
    rw [q2, Bool.or_true, Bool.true_or] at k; exact k
  rw [bi_0] at q2
  refine sq_cellG (x := x + 1) (y := y) hd hj (by rw [tx]; omega) ty1 ⟨_, rfl, fun q3 => ?_, fun q3 => ?_⟩
  · rw [bi_n] at q3
    rw [q3, Bool.or_true, Bool.true_or, Bool.true_or] at k; exact k
  rw [bi_0] at q3
  refine sq_cellG (x := x) (y := y) hd hj tx1 ty1 ⟨_, rfl, fun q4 => ?_, fun q4 => ?_⟩
  · rw [bi_0] at q4
    rw [q1, q2, q3, q4] at k; exact k
  · rw [bi_n] at q4
    rw [q1, q2, q3, q4] at k; exact k
theorem sq_rCornerG {X Y : Int32} (hd : jd w h false S) (hj : jr w h false S z) (k0 : (∀ x y, ¬ hcP w h S X Y x y) → Q (.inl (some (.int 0))) z) (k1 : ∀ x y, hcP w h S X Y x y → Q (.inl (some (.int 1))) z) : wm_X12_isCorner X Y z Q := by
  have hw8 := hd.2.1
  have hh8 := hd.2.2.2.1
  have key1 : fi (0 : Int32).toInt (tq_fi z 3265).toInt X = true ↔ ∃ n : Nat, 0 ≤ n ∧ n ≤ w ∧ X = nI n := by rw [hj.1.1]; exact fi_ex (l := 0) (u := w) (by omega) (by omega)
  have key2 : fi (0 : Int32).toInt (tq_fi z 3266).toInt Y = true ↔ ∃ n : Nat, 0 ≤ n ∧ n ≤ h ∧ Y = nI n := by rw [hj.1.2.1]; exact fi_ex (l := 0) (u := h) (by omega) (by omega)
  by_cases hX : fi (0 : Int32).toInt (tq_fi z 3265).toInt X = true
  · by_cases hY : fi (0 : Int32).toInt (tq_fi z 3266).toInt Y = true
    · obtain ⟨x, -, x1, rfl⟩ := key1.mp hX
      obtain ⟨y, -, y1, rfl⟩ := key2.mp hY
      refine sq_rCorner hd hj x1 y1 ?_
      cases hc : cnr S (9 * y + x)
      · refine k0 (fun x' y' h => ?_)
        obtain ⟨a1, a2, a3, a4, a5⟩ := h
        rw [i_eq (by omega) (by omega)] at a3 a4
        rw [← a3, ← a4, hc] at a5; cases a5
      · exact k1 x y ⟨x1, y1, rfl, rfl, hc⟩
    · have no : Q (.inl (some (.int 0))) z := k0 (fun x' y' h => hY (key2.mpr ⟨y', Nat.zero_le _, h.2.1, h.2.2.2.1⟩))
      unfold wm_X12_isCorner
      refine sq_isIn ⟨_, rfl, fun _ => no, fun _ => sq_isIn ⟨_, rfl, fun _ => no, fun q => ?_⟩⟩
      rw [bi_n] at q
      exact absurd q hY
  · have no : Q (.inl (some (.int 0))) z := k0 (fun x' y' h => hX (key1.mpr ⟨x', Nat.zero_le _, h.1, h.2.2.1⟩))
    unfold wm_X12_isCorner
    refine sq_isIn ⟨_, rfl, fun _ => no, fun q => ?_⟩
    rw [bi_n] at q
    exact absurd q hX
theorem sq_tellHeights (hd : jd w h false S) (hj : jr w h false S z) (hpc : pc w false S p) (ht : rto w false S (fun _ => false) p (tq_ai z 56)) (hp : pot w S p H) (kk : ∀ z', fr [(2, 63), (2, 65)] z z' → hts S H 1000000 (tq_ai z' 63) → Q (.inl none) z') : wm_X12_tellHeights z Q := by
  have hd0 := hd
  obtain ⟨hw1, hw8, hh1, hh8, -, hre⟩ := hd
  have scan : ∀ z3, fr [(2, 63), (2, 65)] z z3 → hO S H 1000000 0 (fun _ => false) (tq_ai z3 63) → wc_X12_tellHeights_23 Q z3 := by
    intro z3 f3 o3
    unfold wc_X12_tellHeights_23 wc_X12_tellHeights_25
    refine lp_inv (fun y t => ∃ U z', t = (nI y, z') ∧ fr [(2, 63), (2, 65)] z z' ∧ hO S H 1000000 (9 * y) U (tq_ai z' 63)) (h + 1) ?_ ⟨_, z3, rfl, f3, o3⟩
    rintro y t hy ⟨U, z4, rfl, f4, o4⟩ B hB
    simp only
    have j4 := jr_f f4 (by decide) (by decide) (by decide) (by decide) hj
    unfold wb_X12_tellHeights_25
    rw [j4.1.2.1, i_lt (by omega) (by omega)]
    refine ⟨fun q => kk z4 f4 (hO_e o4 (fun v hv => by have := cnr_in hre hv; omega)), fun q => ?_⟩
    have hB := hB (by omega)
    unfold wc_X12_tellHeights_35
    refine lp_inv (fun x t => ∃ U z', t = (nI x, z') ∧ fr [(2, 63), (2, 65)] z z' ∧ hO S H 1000000 (9 * y + x) U (tq_ai z' 63)) (w + 1) ?_ ⟨U, z4, rfl, f4, o4⟩
    rintro x t hx ⟨U, z5, rfl, f5, o5⟩ B2 hB2
    simp only
    have j5 := jr_f f5 (by decide) (by decide) (by decide) (by decide) hj
    unfold wb_X12_tellHeights_35
    rw [j5.1.1, i_lt (by omega) (by omega)]
    refine ⟨fun q2 => ?_, fun q2 => ?_⟩
    · unfold wc_X12_tellHeights_81
      intro v e
      rw [i_1, i_add] at e
      refine hB _ ⟨U, z5, by rw [e], f5, hO_n o5 (fun u hu1 hu2 hc => ?_)⟩
      have := cnr_in hre hc
      omega
    · have hB2 := hB2 (by omega)
      have go : ∀ U' z6, fr [(2, 63), (2, 65)] z z6 → hO S H 1000000 (9 * y + x + 1) U' (tq_ai z6 63) → wc_X12_tellHeights_75 (fun b1 z => B (b1, z)) (fun b2 z => B2 (b2, z)) Q (nI y) (nI x) z6 := by
        intro U' z6 f6 o6
        unfold wc_X12_tellHeights_75
        intro v e
        rw [i_1, i_add] at e
        exact hB2 _ ⟨U', z6, by rw [e], f6, o6⟩
      refine sq_rCorner hd0 j5 (by omega) (by omega) ⟨_, rfl, fun q3 => ?_, fun q3 => ?_⟩
      · rw [bi_0] at q3
        refine go U z5 f5 (hO_n o5 (fun u hu1 hu2 hc => ?_))
        have : u = 9 * y + x := by omega
        rw [this, q3] at hc; cases hc
      · rw [bi_n] at q3
        rw [i_9, pk_mul, i_add, i_cl (by omega)]
        have m9 : (1000000 : Int32).toInt = 1000000 := by decide +kernel
        refine ⟨i_in (by omega) (by omega), fun q4 => ?_, fun q4 => ?_⟩
        · refine go U z5 f5 (hO_n o5 (fun u hu1 hu2 hc => ?_))
          have : u = 9 * y + x := by omega
          rw [this]
          cases hU : U (9 * y + x)
          · exact absurd (o5.1 _ (by omega) hU) q4
          · rfl
        · have hU : U (9 * y + x) = false := by
            cases hU : U (9 * y + x)
            · rfl
            · have := (o5.2.2.2.2 _ hU).2
              rw [q4, m9] at this; omega
          have tf := sq_tellFrom (s := 9 * y + x) (Q := tq_wv fun z103 => wc_X12_tellHeights_75 (fun b1 z => B (b1, z)) (fun b2 z => B2 (b2, z)) Q (nI y) (nI x) z103) hd0 j5 hpc (by rw [fr_ai f5 (by decide)]; exact ht) hp o5 q3 hU (fun z6 U6 f6 o6 => ⟨rfl, go U6 z6 (fr_t f5 f6) o6⟩)
          have e1 : (9 * y + x) % 9 = x := by omega
          have e2 : (9 * y + x) / 9 = y := by omega
          rw [e1, e2] at tf
          exact tf
  unfold wm_X12_tellHeights wc_X12_tellHeights_2
  refine lp_inv (fun m t => ∃ z', t = (nI m, z') ∧ fr [(2, 63), (2, 65)] z z' ∧ ∀ v, v < m → tq_ai z' 63 v = 1000000) 81 ?_ ⟨z, rfl, fr_r, fun v hv => by omega⟩
  rintro m t hm ⟨z1, rfl, f1, a1⟩ B hB
  simp only
  unfold wb_X12_tellHeights_2
  rw [i_81, i_le (by omega) (by omega)]
  refine ⟨fun q => scan z1 f1 ⟨fun v hv _ => a1 v (by omega), fun v hv => (by cases hv), fun v _ hv => by omega, fun v k hv => (by cases hv), fun v hv => (by cases hv)⟩, fun q => ⟨i_in (by omega) (by omega), fun z2 e2 v e => ?_⟩⟩
  rw [i_1, i_add] at e
  refine hB (by omega) _ ⟨z2, by rw [e], by rw [e2]; exact fr_sai (by decide) f1, fun v hv => ?_⟩
  rw [e2, rw_aie, rw_upd, i_cl (by omega)]
  by_cases u : v = m
  · rw [if_pos u]
  · rw [if_neg u]; exact a1 v (by omega)
theorem sq_exchange (k : ∀ z', fr [(2, 56), (2, 57)] z z' → (∀ j, j < 64 → tq_ai z' 56 j = vp_nar .char (tq_ai z 57 j) ∧ tq_ai z' 57 j = vp_nar .char (tq_ai z 56 j)) → Q (.inl none) z') : wm_X12_exchange z Q := by
  unfold wm_X12_exchange wc_X12_exchange_2
  refine lp_inv (fun m t => ∃ z', t = (nI m, z') ∧ fr [(2, 56), (2, 57)] z z' ∧ (∀ j, j < m → tq_ai z' 56 j = vp_nar .char (tq_ai z 57 j) ∧ tq_ai z' 57 j = vp_nar .char (tq_ai z 56 j)) ∧ ∀ j, m ≤ j → tq_ai z' 56 j = tq_ai z 56 j ∧ tq_ai z' 57 j = tq_ai z 57 j) 64 ?_ ⟨z, rfl, fr_r, fun j hj => by omega, fun j _ => ⟨rfl, rfl⟩⟩
  rintro m t hm ⟨z1, rfl, f1, a1, b1⟩ B hB
  simp only
  unfold wb_X12_exchange_2
  rw [i_64, i_le (by omega) (by omega), i_cl (by omega)]
  refine ⟨fun q => k z1 f1 (fun j hj => a1 j (by omega)), fun q => ⟨i_in (by omega) (by omega), fun v1 e1 => ⟨i_in (by omega) (by omega), i_in (by omega) (by omega), fun z2 e2 => ⟨i_in (by omega) (by omega), fun z3 e3 v4 e4 => ?_⟩⟩⟩⟩
  rw [i_1, i_add] at e4
  obtain ⟨c1, c2⟩ := b1 m (Nat.le_refl _)
  have a56 : ∀ j, tq_ai z3 56 j = if j = m then vp_nar .char (tq_ai z 57 m) else tq_ai z1 56 j := by
    intro j; rw [e3, rw_ain (by omega), e2, rw_aie, rw_upd, c2]
  have a57 : ∀ j, tq_ai z3 57 j = if j = m then vp_nar .char (tq_ai z 56 m) else tq_ai z1 57 j := by
    intro j; rw [e3, rw_aie, rw_upd, e1, c1, e2, rw_ain (by omega)]
  refine hB (by omega) _ ⟨z3, by rw [e4], by rw [e3]; refine fr_sai (by decide) ?_; rw [e2]; exact fr_sai (by decide) f1, fun j hj => ?_, fun j hj => ?_⟩
  · rw [a56, a57]
    by_cases u : j = m
    · rw [if_pos u, if_pos u, u]; exact ⟨rfl, rfl⟩
    · rw [if_neg u, if_neg u]; exact a1 j (by omega)
  · rw [a56, a57, if_neg (by omega), if_neg (by omega)]; exact b1 j (by omega)
theorem rto_nc {A A' : Nat → Int32} (ht : rto w r S (fun _ => false) p A) (e : ∀ j, j < 64 → A' j = vp_nar .char (A j)) : rto w r S (fun _ => false) p A' := by
  intro j hj hs hf
  have := tc_lt (w := w) (r := r) (p := p) (j := j)
  rw [e j hj, ht j hj hs hf, i_nc (by omega)]
def FHj : List (Nat × Nat) := [(0, 3264), (2, 61), (2, 62), (0, 3282), (2, 63), (2, 65)]
def FHk : List (Nat × Nat) := [(0, 3264), (2, 61), (2, 62), (0, 3282), (2, 63), (2, 64), (2, 65), (2, 56), (2, 57)]
theorem pln_f : (r || decide (0 < gr_n w r (mi w h S) (rim w h r))) = !pln w h r S := by
  unfold pln
  cases r
  · by_cases q : gr_n w false (mi w h S) (rim w h false) = 0
    · rw [q]; rfl
    · rw [decide_eq_true (by omega), decide_eq_false q]; rfl
  · rfl
theorem gr_n_b {W M : Nat → Bool} : gr_n w r W M < 2147483648 := by
  unfold gr_n
  have := fb_ct_le (rc_k (nb w r) W M) 64
  omega
theorem sr_height {X Y : Int32} {b : Bool} (hd : jd w h r S) (hj : jr w h r S z) (hb : tq_fi z 3272 = bi b) (hc : b = true → pc w r S p ∧ rto w r S (fun _ => false) p (tq_ai z 56)) (hp : pln w h r S = true → b = true → pot w S p H) (k4 : pln w h r S = false → ∀ z', fr FHj z z' → tq_fi z' 3264 = nI 1 → Q (.inl (some (.int 0))) z') (k3 : pln w h r S = true → (∀ x y, ¬ hcP w h S X Y x y) → ∀ z', fr FHj z z' → tq_fi z' 3264 = nI 2 → Q (.inl (some (.int 0))) z') (k5 : ∀ x y, pln w h r S = true → hcP w h S X Y x y → b = false → ∀ z', fr FHj z z' → tq_fi z' 3264 = nI 3 → Q (.inl (some (.int 0))) z') (k1 : ∀ x y, pln w h r S = true → hcP w h S X Y x y → b = true → ∀ z' v, fr FHj z z' → tq_fi z' 3264 = 0 → v.toInt = H (9 * y + x) - H (lst S (9 * y + x)) → Q (.inl (some (.int v))) z') : wm_X12_height X Y z Q := by
  unfold wm_X12_height
  refine sr_isRolledOrHoled (a := 1) hd hj (fun z1 f1 e1 => ⟨_, rfl, ?_⟩) gr_n_b
  rw [pln_f] at e1 ⊢
  dsimp only
  rw [bi_n, bi_0]
  refine ⟨fun q => ?_, fun q => ?_⟩
  · have q : pln w h r S = false := by simpa using q
    rw [q] at e1
    exact k4 q z1 (fr_m (by decide) f1) e1
  have q : pln w h r S = true := by simpa using q
  obtain ⟨rfl, -⟩ := pln_t q
  rw [q] at e1
  have j1 := jr_f f1 (by decide) (by decide) (by decide) (by decide) hj
  have f1' : fr FHj z z1 := fr_m (by decide) f1
  refine sq_rCornerG hd j1 (fun hno => ⟨_, rfl, fun q2 => absurd rfl q2, fun _ => ?_⟩) (fun x y hxy => ⟨_, rfl, fun _ => ?_, fun q2 => absurd q2 (by decide +kernel)⟩)
  · unfold wc_X12_height_23
    exact sq_isThrown (b := true) (a := 2) (fun z2 f2 e2 => ⟨_, rfl, fun _ => k3 q hno z2 (fr_t f1' (fr_m (by decide) f2)) e2, fun q3 => absurd q3 (by decide +kernel)⟩)
  · unfold wc_X12_height_23
    refine sq_isThrown (b := false) (a := 2) (fun z2 f2 e2 => ⟨_, rfl, fun q3 => absurd rfl q3, fun _ => ?_⟩)
    have f2' : fr FHj z z2 := fr_t f1' (fr_m (by decide) f2)
    have b2 : tq_fi z2 3272 = bi b := (fr_fi f2' (by decide)).trans hb
    refine sq_hasNone (b := b) (a := 3) b2 (fun z3 f3 e3 => ⟨_, rfl, ?_⟩)
    have f3' : fr FHj z z3 := fr_t f2' (fr_m (by decide) f3)
    dsimp only
    rw [bi_0]
    refine ⟨fun q3 => ?_, fun q3 => ?_⟩
    · have q3 : b = true := by simpa using q3
      have j3 := jr_f f3' (by decide) (by decide) (by decide) (by decide) hj
      refine sq_tellHeights hd j3 (hc q3).1 (by rw [fr_ai f3' (by decide)]; exact (hc q3).2) (hp q q3) (fun z4 f4 h4 => ⟨rfl, ?_⟩)
      have K1 := k1 x y q hxy q3
      obtain ⟨x1, y1, rfl, rfl, hcn⟩ := hxy
      have hw8 := hd.2.1
      have hh8 := hd.2.2.2.1
      dsimp only
      rw [i_9, pk_mul, i_add, i_cl (by omega)]
      refine ⟨i_in (by omega) (by omega), K1 z4 _ (fr_t f3' (fr_m (by decide) f4)) ?_ ((h4 _ (by omega)).1 hcn).1⟩
      rw [fr_fi f4 (by decide), e3, q3]; rfl
    · have q3 : b = false := by simpa using q3
      refine k5 x y q hxy q3 z3 f3' ?_
      rw [e3, q3]; rfl
theorem sr_apart {b bk : Bool} (hd : jd w h r S) (hj : jr w h r S z) (hb : tq_fi z 3272 = bi b) (hk : tq_fi z 3274 = bi bk) (hc : b = true → pc w r S p ∧ rto w r S (fun _ => false) p (tq_ai z 56)) (hck : bk = true → pc w r S p' ∧ rto w r S (fun _ => false) p' (tq_ai z 57)) (hp : pln w h r S = true → b = true → pot w S p H) (hp' : pln w h r S = true → bk = true → pot w S p' H') (k4 : pln w h r S = false → ∀ z', fr FHj z z' → tq_fi z' 3264 = nI 1 → Q (.inl (some (.int 0))) z') (k5 : pln w h r S = true → (b && bk) = false → ∀ z', fr FHj z z' → tq_fi z' 3264 = nI 2 → Q (.inl (some (.int 0))) z') (k1 : pln w h r S = true → b = true → bk = true → ∀ z', fr FHk z z' → tq_fi z' 3264 = 0 → rto w r S (fun _ => false) p (tq_ai z' 56) → rto w r S (fun _ => false) p' (tq_ai z' 57) → Q (.inl (some (.int (nI (fb_sm (apS S H H') 81 / 4))))) z') : wm_X12_apart z Q := by
  unfold wm_X12_apart
  refine sr_isRolledOrHoled (a := 1) hd hj (fun z1 f1 e1 => ⟨_, rfl, ?_⟩) gr_n_b
  rw [pln_f] at e1 ⊢
  dsimp only
  rw [bi_n, bi_0]
  refine ⟨fun q => ?_, fun q => ?_⟩
  · have q : pln w h r S = false := by simpa using q
    rw [q] at e1
    exact k4 q z1 (fr_m (by decide) f1) e1
  have q : pln w h r S = true := by simpa using q
  obtain ⟨rfl, -⟩ := pln_t q
  have f1' : fr FHj z z1 := fr_m (by decide) f1
  have b1 : tq_fi z1 3272 = bi b := (fr_fi f1 (by decide)).trans hb
  have b2 : tq_fi z1 3274 = bi bk := (fr_fi f1 (by decide)).trans hk
  have no : (b && bk) = false → wc_X12_apart_23 Q z1 := by
    intro hn
    unfold wc_X12_apart_23 wc_X12_apart_28
    exact sq_isThrown (b := true) (a := 2) (fun z2 f2 e2 => ⟨_, rfl, fun q3 => absurd q3 (by decide +kernel), fun _ => k5 q hn z2 (fr_t f1' (fr_m (by decide) f2)) e2⟩)
  rw [b1, b2]
  refine ⟨fun q2 => no (by rw [bi_0] at q2; rw [q2]; rfl), fun q2 => ⟨fun q3 => ?_, fun q3 => no (by rw [bi_0] at q3; rw [q3]; simp)⟩⟩
  rw [bi_n] at q2 q3
  unfold wc_X12_apart_28
  refine sq_isThrown (b := false) (a := 2) (fun z2 f2 e2 => ⟨_, rfl, fun _ => ?_, fun q4 => absurd rfl q4⟩)
  have f2' : fr FHk z z2 := fr_t (fr_m (by decide) f1) (fr_m (by decide) f2)
  have g56 : tq_ai z2 56 = tq_ai z 56 := by rw [fr_ai f2 (by decide), fr_ai f1 (by decide)]
  have g57 : tq_ai z2 57 = tq_ai z 57 := by rw [fr_ai f2 (by decide), fr_ai f1 (by decide)]
  obtain ⟨pc1, rt1⟩ := hc q2
  obtain ⟨pc2, rt2⟩ := hck q3
  refine sq_exchange (fun z3 f3 x3 => ⟨rfl, ?_⟩)
  have f3' : fr FHk z z3 := fr_t f2' (fr_m (by decide) f3)
  have j3 := jr_f f3' (by decide) (by decide) (by decide) (by decide) hj
  have r3a : rto w false S (fun _ => false) p' (tq_ai z3 56) := rto_nc rt2 (fun j hj => by rw [(x3 j hj).1, g57])
  have r3b : rto w false S (fun _ => false) p (tq_ai z3 57) := rto_nc rt1 (fun j hj => by rw [(x3 j hj).2, g56])
  refine sq_tellHeights hd j3 pc2 r3a (hp' q q3) (fun z4 f4 h4 => ⟨rfl, ?_⟩)
  have f4' : fr FHk z z4 := fr_t f3' (fr_m (by decide) f4)
  -- kept heights
  unfold wc_X12_apart_47
  refine lp_inv (fun m t => ∃ z', t = (nI m, z') ∧ fr [(2, 64)] z4 z' ∧ ∀ v, v < m → tq_ai z' 64 v = tq_ai z4 63 v) 81 ?_ ⟨z4, rfl, fr_r, fun v hv => by omega⟩
  rintro m t hm ⟨z5, rfl, f5, a5⟩ B hB
  simp only
  unfold wb_X12_apart_47
  rw [i_81, i_le (by omega) (by omega), i_cl (by omega)]
  refine ⟨fun u => ?_, fun u => ⟨i_in (by omega) (by omega), i_in (by omega) (by omega), fun z6 e6 v7 e7 => ?_⟩⟩
  rotate_left
  · rw [i_1, i_add] at e7
    refine hB (by omega) _ ⟨z6, by rw [e7], by rw [e6]; exact fr_sai (by decide) f5, fun v hv => ?_⟩
    rw [e6, rw_aie, rw_upd]
    by_cases e : v = m
    · rw [if_pos e, fr_ai f5 (by decide), e]
    · rw [if_neg e]; exact a5 v (by omega)
  have h5 : hts S H' 1000000 (tq_ai z5 64) := by
    intro v hv
    rw [a5 v (by omega)]
    exact h4 v hv
  have f5' : fr FHk z z5 := fr_t f4' (fr_m (by decide) f5)
  unfold wc_X12_apart_71
  refine sq_exchange (fun z6 f6 x6 => ⟨rfl, ?_⟩)
  have f6' : fr FHk z z6 := fr_t f5' (fr_m (by decide) f6)
  have j6 := jr_f f6' (by decide) (by decide) (by decide) (by decide) hj
  have g5a : tq_ai z5 56 = tq_ai z3 56 := by rw [fr_ai f5 (by decide), fr_ai f4 (by decide)]
  have g5b : tq_ai z5 57 = tq_ai z3 57 := by rw [fr_ai f5 (by decide), fr_ai f4 (by decide)]
  have r6a : rto w false S (fun _ => false) p (tq_ai z6 56) := rto_nc r3b (fun j hj => by rw [(x6 j hj).1, g5b])
  have r6b : rto w false S (fun _ => false) p' (tq_ai z6 57) := rto_nc r3a (fun j hj => by rw [(x6 j hj).2, g5a])
  refine sq_tellHeights hd j6 pc1 r6a (hp q q2) (fun z7 f7 h7 => ⟨rfl, ?_⟩)
  have h72 : hts S H' 1000000 (tq_ai z7 64) := by rw [fr_ai f7 (by decide), fr_ai f6 (by decide)]; exact h5
  have sb : ∀ m, m ≤ 81 → fb_sm (apS S H H') m ≤ m * 600 := fun m hm => fb_sm_bound (fun v hv => (apS_b h7 h72 (by omega)).2)
  have K := k1 q q2 q3 z7 (fr_t f6' (fr_m (by decide) f7)) (by rw [fr_fi f7 (by decide), fr_fi f6 (by decide), fr_fi f5 (by decide), fr_fi f4 (by decide), fr_fi f3 (by decide)]; exact e2) (by rw [fr_ai f7 (by decide)]; exact r6a) (by rw [fr_ai f7 (by decide)]; exact r6b)
  unfold wc_X12_apart_83
  refine lp_for (fun m => (nI (fb_sm (apS S H H') m), nI m, z7)) 81 ?_ rfl
  intro m hm B2 hB2
  simp only
  have s1 := sb m hm
  unfold wb_X12_apart_83
  rw [i_81, i_le (by omega) (by omega), i_cl (by omega)]
  refine ⟨fun u => ?_, fun u => ⟨i_in (by omega) (by omega), i_in (by omega) (by omega), fun v1 e1 => ?_⟩⟩
  · have : m = 81 := by omega
    subst this
    rw [i_4, pk_div (by omega) (by omega) (by omega)]
    exact K
  · obtain ⟨e, d1, d2⟩ := hts_d h7 h72 (v := m) (by omega)
    obtain ⟨a1, a2⟩ := apS_b h7 h72 (v := m) (by omega)
    rw [← e1] at e d1 d2 a1
    have fin : ∀ v : Int32, v = nI (apS S H H' m) → wc_X12_apart_114 (fun b1 b2 z => B2 (b1, b2, z)) Q (nI m) v (nI (fb_sm (apS S H H') m)) z7 := by
      intro v ev
      unfold wc_X12_apart_114
      intro v3 e3 v4 e4
      rw [i_1, i_add] at e4
      rw [ev, i_add] at e3
      rw [e3, e4]
      exact hB2 (by omega)
    refine ⟨fun u2 => fin v1 ?_, fun u2 => fin (-v1) ?_⟩
    · rw [nu_le, i_z] at u2
      rw [nu_eq, i_ti (by omega)]; omega
    · rw [nu_le, i_z] at u2
      rw [nu_eq, fb_negI (by omega), i_ti (by omega)]; omega
end RHIGH2
