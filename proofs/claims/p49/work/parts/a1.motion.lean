section MOV
variable {w h : Nat} {r : Bool} {S : Nat → Bool} {z : tq_S} {Q : tq_O → tq_S → Prop}
/-- some quarter turns of the board -/
def brt (w h : Nat) : Nat → Nat × Nat → Nat × Nat
  | 0, p => p
  | t + 1, p => ((if t % 2 = 0 then h else w) - 1 - (brt w h t p).2, (brt w h t p).1)
/-- where a motion takes a cell -/
def bmv (w h m c : Nat) : Nat × Nat := brt w h (m % 4) (if m < 4 then c % 8 else w - 1 - c % 8, c / 8)
theorem brt_b {p : Nat × Nat} (hp : p.1 < w ∧ p.2 < h) : ∀ t, (t % 2 = 0 → (brt w h t p).1 < w ∧ (brt w h t p).2 < h) ∧ (t % 2 = 1 → (brt w h t p).1 < h ∧ (brt w h t p).2 < w)
  | 0 => ⟨fun _ => hp, fun e => absurd e (by omega)⟩
  | t + 1 => by
    obtain ⟨a, b⟩ := brt_b hp t
    refine ⟨fun e => ?_, fun e => ?_⟩
    · have := b (by omega)
      show (if t % 2 = 0 then h else w) - 1 - (brt w h t p).2 < w ∧ (brt w h t p).1 < h
      rw [if_neg (by omega)]
      omega
    · have := a (by omega)
      show (if t % 2 = 0 then h else w) - 1 - (brt w h t p).2 < h ∧ (brt w h t p).1 < w
      rw [if_pos (by omega)]
      omega
/-- whether a motion leaves the board as it is -/
noncomputable def gok (w h : Nat) (S : Nat → Bool) (m : Nat) : Bool := @decide ((m % 2 = 1 → w = h) ∧ ∀ c, c < 64 → S c = true → ho w h S (nI (bmv w h m c).1) (nI (bmv w h m c).2) = true) (Classical.propDecidable _)
theorem gok_t {m : Nat} : gok w h S m = true ↔ (m % 2 = 1 → w = h) ∧ ∀ c, c < 64 → S c = true → ho w h S (nI (bmv w h m c).1) (nI (bmv w h m c).2) = true := by
  unfold gok
  exact @decide_eq_true_iff _ (Classical.propDecidable _)
theorem i_par2 {a : Nat} (ha : a < 100) : ((nI a - nI a / (2 : Int32) * (2 : Int32)) = nI (a % 2)) := by
  rw [i_2]; exact pk_rem (by omega) (by omega) (by omega)
theorem bmv_b (hd : jd w h r S) {m c : Nat} (hc : S c = true) (hs : m % 2 = 1 → w = h) : (bmv w h m c).1 < w ∧ (bmv w h m c).2 < h := by
  have r1 := hd.2.2.2.2.2 c hc
  have hw1 := hd.1
  have b := brt_b (w := w) (h := h) (p := (if m < 4 then c % 8 else w - 1 - c % 8, c / 8)) (by dsimp only; split <;> omega) (m % 4)
  unfold bmv
  rcases (by omega : m % 4 % 2 = 0 ∨ m % 4 % 2 = 1) with e | e
  · exact b.1 e
  · have := b.2 e
    have := hs (by omega)
    omega
/-- the cells of the board with the numbers of their images -/
def mvd (w h : Nat) (S : Nat → Bool) (m : Nat) (z : tq_S) : Prop := ∀ i, i < fb_ct S 64 → tq_ai z 33 (24 * m + i) = nI (fb_ct S (8 * (bmv w h m (kth S i)).2 + (bmv w h m (kth S i)).1))
theorem sq_fillMoved {m : Nat} (hd : jd w h r S) (hj : jc w h r S z) (hn : cnm S z) (h24 : fb_ct S 64 ≤ 24) (hm : m < 8) (k0 : gok w h S m = false → ∀ z', fr [(2, 33)] z z' → (∀ j, j < 24 * m ∨ 24 * m + 24 ≤ j → tq_ai z' 33 j = tq_ai z 33 j) → Q (.inl (some (.int 0))) z') (k1 : gok w h S m = true → ∀ z', fr [(2, 33)] z z' → (∀ j, j < 24 * m ∨ 24 * m + 24 ≤ j → tq_ai z' 33 j = tq_ai z 33 j) → mvd w h S m z' → Q (.inl (some (.int 1))) z') : wm_X4_fillMoved (nI m) z Q := by
  have hw8 := hd.2.1
  have hh8 := hd.2.2.2.1
  have nog : ¬ ((m % 2 = 1 → w = h) ∧ ∀ c, c < 64 → S c = true → ho w h S (nI (bmv w h m c).1) (nI (bmv w h m c).2) = true) → gok w h S m = false := fun e => by
    cases q : gok w h S m
    · rfl
    · exact absurd (gok_t.mp q) e
  unfold wm_X4_fillMoved
  intro v1 e1
  have m4 : nI m - nI m / (4 : Int32) * (4 : Int32) = nI (m % 4) := by rw [i_4]; exact pk_rem (by omega) (by omega) (by omega)
  rw [m4] at e1
  subst e1
  rw [i_par2 (by omega), i_1, i_eq (by omega) (by omega)]
  have main : (m % 2 = 1 → w = h) → wc_X4_fillMoved_30 Q (nI m) (nI (m % 4)) z := by
    intro hs
    unfold wc_X4_fillMoved_30 wc_X4_fillMoved_32
    refine lp_inv (fun i st => ∃ z', st = (nI i, z') ∧ fr [(2, 33)] z z' ∧ (∀ j, j < 24 * m ∨ 24 * m + 24 ≤ j → tq_ai z' 33 j = tq_ai z 33 j) ∧ (∀ k, k < i → ho w h S (nI (bmv w h m (kth S k)).1) (nI (bmv w h m (kth S k)).2) = true) ∧ ∀ k, k < i → tq_ai z' 33 (24 * m + k) = nI (fb_ct S (8 * (bmv w h m (kth S k)).2 + (bmv w h m (kth S k)).1))) (fb_ct S 64) ?_ ⟨z, rfl, fr_r, fun _ _ => rfl, fun k hk => absurd hk (Nat.not_lt_zero _), fun k hk => absurd hk (Nat.not_lt_zero _)⟩
    rintro i st hi ⟨z3, rfl, f3, o3, h3, b3⟩ B hB
    simp only
    have n3 := cnm_f f3 (by decide) (by decide) (by decide) hn
    have j3 := jc_f f3 (by decide) (by decide) (by decide) (by decide) hj
    unfold wb_X4_fillMoved_32
    rw [n3.1, i_le (by omega) (by omega)]
    refine ⟨fun q => ?_, fun q => ?_⟩
    · have ei : i = fb_ct S 64 := by omega
      refine k1 (gok_t.mpr ⟨hs, fun c hc hS => ?_⟩) z3 f3 o3 (fun k hk => b3 k (by omega))
      have := h3 (fb_ct S c) (by rw [ei]; exact ct_in hc hS)
      rw [kth_of hc hS] at this
      exact this
    obtain ⟨c, hc⟩ : ∃ c, c = kth S i := ⟨_, rfl⟩
    obtain ⟨c64, cS⟩ := kth_in (p := S) (k := i) (by omega)
    rw [← hc] at c64 cS
    have rc := hd.2.2.2.2.2 c cS
    have a31 : tq_ai z3 31 i = nI c := by rw [n3.2.1 i (by omega), hc]
    refine ⟨i_in (by omega) (by omega), ?_⟩
    rw [i_cl (by omega), a31]
    intro v2 e2
    refine ⟨i_in (by omega) (by omega), fun v3 e3 => ?_⟩
    have q8 : nI c - nI c / (8 : Int32) * (8 : Int32) = nI (c % 8) := by rw [i_8]; exact pk_rem (by omega) (by omega) (by omega)
    have d8 : nI c / (8 : Int32) = nI (c / 8) := by rw [i_8]; exact pk_div (by omega) (by omega) (by omega)
    rw [q8] at e2
    rw [d8] at e3
    subst e2
    subst e3
    have bb := bmv_b hd cS hs
    have go : ∀ x0 : Nat, x0 = (if m < 4 then c % 8 else w - 1 - c % 8) → wc_X4_fillMoved_84 (fun b3 z => B (b3, z)) Q (nI m) (nI (m % 4)) (nI i) (nI (c / 8)) (nI x0) z3 := by
      intro x0 hx0
      unfold wc_X4_fillMoved_84 wc_X4_fillMoved_89
      have bm : bmv w h m c = brt w h (m % 4) (x0, c / 8) := by unfold bmv; rw [hx0]
      have bt := brt_b (w := w) (h := h) (p := (x0, c / 8)) (by dsimp only; rw [hx0]; split <;> omega)
      refine lp_inv (fun t st => st = (nI (brt w h t (x0, c / 8)).1, nI (brt w h t (x0, c / 8)).2, nI t, z3)) (m % 4) ?_ rfl
      rintro t st ht rfl B2 hB2
      simp only
      unfold wb_X4_fillMoved_89
      rw [i_le (by omega) (by omega)]
      refine ⟨fun q2 => ?_, fun q2 => ?_⟩
      · have : t = m % 4 := by omega
        subst this
        rw [← bm]
        unfold wc_X4_fillMoved_140
        refine sq_holds hw8 hh8 j3 ⟨_, rfl, fun e => ?_, fun e => ?_⟩
        · rw [bi_n] at e
          have ix : (8 : Int32) * nI (bmv w h m c).2 + nI (bmv w h m c).1 = nI (8 * (bmv w h m c).2 + (bmv w h m c).1) := by rw [i_8, pk_mul, i_add]
          have ix2 : nI m * (24 : Int32) + nI i = nI (24 * m + i) := by rw [show (24 : Int32) = nI 24 from rfl, pk_mul, i_add, Nat.mul_comm]
          have sS : S (8 * (bmv w h m c).2 + (bmv w h m c).1) = true := by
            rw [ho_n (by omega) (by omega), decide_eq_true bb.1, decide_eq_true bb.2] at e
            exact e
          dsimp only
          rw [ix, ix2]
          refine ⟨i_in (by omega) (by omega), i_in (by omega) (by omega), fun z4 e4 v4 e5 => ?_⟩
          rw [i_cl (by omega), i_cl (by omega), n3.2.2 _ (by omega), if_pos sS] at e4
          rw [i_1, i_add] at e5
          subst e5
          have a4 : ∀ j, tq_ai z4 33 j = if j = 24 * m + i then nI (fb_ct S (8 * (bmv w h m c).2 + (bmv w h m c).1)) else tq_ai z3 33 j := fun j => by rw [e4, rw_aie, rw_upd]
          refine hB (by omega) _ ⟨z4, rfl, by rw [e4]; exact fr_sai (by decide) f3, fun j hj => ?_, fun k hk => ?_, fun k hk => ?_⟩
          · rw [a4, if_neg (by omega)]; exact o3 j hj
          · by_cases u : k = i
            · rw [u, ← hc]; exact e
            · exact h3 k (by omega)
          · rw [a4]
            by_cases u : k = i
            · rw [if_pos (by omega), u, ← hc]
            · rw [if_neg (by omega)]; exact b3 k (by omega)
        · rw [bi_0] at e
          refine k0 (nog fun u => ?_) z3 f3 o3
          rw [u.2 c c64 cS] at e; cases e
      · have hB2 := hB2 (by omega)
        have bT := bt t
        have cut : ∀ H : Nat, H ≤ 8 → (brt w h t (x0, c / 8)).2 < H → H = (if t % 2 = 0 then h else w) → wc_X4_fillMoved_123 (fun b3 z => B (b3, z)) (fun b4 b5 b6 z => B2 (b4, b5, b6, z)) Q (nI m) (nI (m % 4)) (nI i) (nI (brt w h t (x0, c / 8)).2) (nI t) (nI (brt w h t (x0, c / 8)).1) (nI H) z3 := by
          intro H h8 hl hH
          unfold wc_X4_fillMoved_123
          intro v4 e4 v5 e5
          rw [i_pmn (by omega), pk_sub (by omega)] at e4
          rw [i_1, i_add] at e5
          subst e4
          subst e5
          refine hB2 _ ?_
          show (_, _, _, _) = (nI ((if t % 2 = 0 then h else w) - 1 - (brt w h t (x0, c / 8)).2), nI (brt w h t (x0, c / 8)).1, _, _)
          rw [hH]
        rw [i_par2 (by omega), show (0 : Int32) = nI 0 from rfl, i_eq (by omega) (by omega), j3.1, j3.2.1]
        refine ⟨fun q3 => cut w hw8 ?_ (if_neg q3).symm, fun q3 => cut h hh8 ?_ (if_pos q3).symm⟩
        · exact (bT.2 (by omega)).2
        · exact (bT.1 q3).2
    rw [i_4, i_lt (by omega) (by omega)]
    refine ⟨fun q2 => go _ (if_pos q2).symm, fun q2 => ?_⟩
    rw [j3.1, i_pmn (by omega), pk_sub (by omega)]
    exact go _ (if_neg q2).symm
  refine ⟨fun e => main (fun q => absurd (show m % 4 % 2 = 1 by omega) e), fun e => ?_⟩
  rw [hj.1, hj.2.1, i_eq (by omega) (by omega)]
  exact ⟨fun q => main (fun _ => q), fun q => k0 (nog fun u => q (u.1 (by omega))) z fr_r (fun _ _ => rfl)⟩
end MOV
