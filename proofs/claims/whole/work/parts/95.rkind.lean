/-! ===== a new kind, in the reference ===== -/
def mim : Nat → (Int → Int → Prop) → Int → Int → Prop
  | 0, V => V
  | n + 1, V => mir (mim n V)
section RKIND
variable {z : tq_S} {Q : tq_O → tq_S → Prop} {T : Int64} {n : Nat} {C : Nat → Nat}
theorem mo_m {V : Int → Int → Prop} {m t : Nat} (hm : m < 2) (ht : t < 4) : mo (4 * m + t) V = tim t (mim m V) := by
  unfold mo
  rw [show (4 * m + t) % 4 = t by omega]
  by_cases q : m = 0
  · subst q; rw [if_pos (by omega)]; rfl
  · have : m = 1 := by omega
    subst this; rw [if_neg (by omega)]; rfl
def FRk : List (Nat × Nat) := [(0, 3264), (3, 69), (2, 68), (2, 67), (0, 3290), (1, 3289)]
/-- what the reference has found after N motions -/
def rks (A : Nat → Int64) (D : Nat → Int32) (n : Nat) (P : Nat × (Nat → Int64)) (z : tq_S) : Prop := (∀ k, tq_ai z 68 k = if k = n then nI P.1 else D k) ∧ ∀ j, (j < 8 * n → tq_al z 69 j = A j) ∧ ∀ i, i < P.1 → tq_al z 69 (8 * n + i) = P.2 i
theorem sr_kind {A : Nat → Int64} {a1 a2 a3 : Int32} (hA : ∀ k, k < n → ∀ i, i < C k → tq_al z 69 (8 * k + i) = A (8 * k + i)) (hn : n ≤ 6) (en : tq_fi z 3290 = nI n) (hC : ∀ k, k < n → tq_ai z 68 k = nI (C k) ∧ C k ≤ 8) (eT : tq_fl z 3289 = T) (hT : wS T) (h6 : fb_ct (ct T) 64 ≤ 6) (k0 : (∀ m, ¬ kmn a3 m) → ∀ z', fr [(0, 3264)] z z' → tq_fi z' 3264 = 1 → Q (.inl (some (.int 0))) z') (k1 : ∀ m, kmn a3 m → (fb_ct (ct T) 64 < 3 ∨ n = 6) → ∀ z', fr [(0, 3264)] z z' → tq_fi z' 3264 = 2 → Q (.inl (some (.int 0))) z') (k2 : ∀ m, kmn a3 m → 3 ≤ fb_ct (ct T) 64 → n < 6 → kbad A C n T (mean a1 a2) 8 → ∀ z', fr [(0, 3264), (3, 69), (2, 68)] z z' → (∀ j, j < 8 * n → tq_al z' 69 j = tq_al z 69 j) → (∀ k, k ≠ n → tq_ai z' 68 k = tq_ai z 68 k) → tq_fi z' 3264 = 3 → Q (.inl (some (.int 0))) z') (k3 : ∀ m, kmn a3 m → 3 ≤ fb_ct (ct T) 64 → n < 6 → ¬ kbad A C n T (mean a1 a2) 8 → ∀ z', fr FRk z z' → (∀ j, j < 8 * n → tq_al z' 69 j = tq_al z 69 j) → (∀ i, i < (pl (shf T) (mean a1 a2) 8).1 → tq_al z' 69 (8 * n + i) = (pl (shf T) (mean a1 a2) 8).2 i) → (∀ k, tq_ai z' 68 k = if k = n then nI (pl (shf T) (mean a1 a2) 8).1 else tq_ai z 68 k) → (∀ k, tq_ai z' 67 k = if k = n then nI m else tq_ai z 67 k) → tq_fi z' 3290 = nI (n + 1) → tq_fl z' 3289 = 0 → tq_fi z' 3264 = 0 → Q (.inl (some (.int (nI (pl (shf T) (mean a1 a2) 8).1)))) z') : wm_X12_kind a1 a2 a3 z Q := by
  have pm := fun m => pl_l (f := shf T) (me := mean a1 a2) m
  have e3 : (3 : Int32) = nI 3 := rfl
  unfold wm_X12_kind
  refine sq_isIn ⟨_, rfl, fun h1 => ?_, fun h1 => ?_⟩
  rotate_left
  · unfold wc_X12_kind_16
    refine sq_isThrown (b := true) (a := 1) (fun z1 f1 g1 => ⟨_, rfl, fun _ => k0 (fun m hm => ?_) z1 f1 g1, fun h3 => absurd h3 (by decide +kernel)⟩)
    rw [bi_0, fi_18.mpr ⟨m, hm⟩] at h1; cases h1
  rw [bi_n, fi_18] at h1
  obtain ⟨m3, hm3⟩ := h1
  unfold wc_X12_kind_16
  refine sq_isThrown (b := false) (a := 1) (fun z1 f1 g1 => ⟨_, rfl, fun h3 => absurd rfl h3, fun _ => ?_⟩)
  have T1 : tq_fl z1 3289 = T := (fr_fl (k := 3289) f1 (by decide)).trans eT
  have n1 : tq_fi z1 3290 = nI n := (fr_fi (k := 3290) f1 (by decide)).trans en
  rw [T1]
  refine sq_bitsL ⟨_, rfl, ?_⟩
  have no : (fb_ct (ct T) 64 < 3 ∨ n = 6) → wc_X12_kind_44 Q a1 a2 a3 z1 := by
    intro u
    unfold wc_X12_kind_44 wc_X12_kind_49
    exact sq_isThrown (b := true) (a := 2) (fun z2 f2 g2 => ⟨_, rfl, fun h3 => absurd h3 (by decide +kernel), fun _ => k1 m3 hm3 u z2 (fr_t f1 f2) g2⟩)
  dsimp only
  rw [e3, i_lt (by omega) (by omega), n1, i_6, i_eq (by omega) (by omega)]
  refine ⟨fun u => no (Or.inl u), fun u => ⟨fun u2 => ?_, fun u2 => no (Or.inr u2)⟩⟩
  have hn6 : n < 6 := by omega
  unfold wc_X12_kind_49
  refine sq_isThrown (b := false) (a := 2) (fun z2 f2 g2 => ⟨_, rfl, fun _ => ?_, fun h3 => absurd rfl h3⟩)
  have n2 : tq_fi z2 3290 = nI n := (fr_fi (k := 3290) f2 (by decide)).trans n1
  have f12 := fr_t f1 f2
  rw [n2]
  refine ⟨i_in hn6 (by omega), fun z3 q3 => ?_⟩
  rw [i_cl (by omega)] at q3
  have f3 : fr [(0, 3264), (3, 69), (2, 68)] z z3 := by rw [q3]; exact fr_sai (by decide) (fr_m (by decide) f12)
  have n3 : tq_fi z3 3290 = nI n := (fr_fi (k := 3290) f3 (by decide)).trans en
  have T3 : tq_fl z3 3289 = T := (fr_fl (k := 3289) f3 (by decide)).trans eT
  have r3 : rks (tq_al z 69) (tq_ai z 68) n (0, fun _ => 0) z3 := by
    refine ⟨fun k => ?_, fun j => ⟨fun _ => ?_, fun i hi => absurd hi (Nat.not_lt_zero _)⟩⟩
    · rw [q3, rw_aie, fr_ai (k := 68) f12 (by decide)]; rfl
    · rw [q3]; exact congrFun (fr_al (k := 69) f12 (by decide)) j
  have ex : ∃ i, ct T i = true := by
    obtain ⟨i, _, e⟩ := fb_ct_pos.mp (by omega : 0 < fb_ct (ct T) 64)
    exact ⟨i, e⟩
  obtain ⟨lo, _, l1, l2⟩ : ∃ k, k ≤ _ ∧ ct T k = true ∧ ∀ j, j < k → ct T j = false := ct_first _ ex.choose_spec
  -- what is told of the kinds when N motions are done
  have oth : ∀ N z', rks (tq_al z 69) (tq_ai z 68) n (pl (shf T) (mean a1 a2) N) z' → ∀ s, (∃ k, 0 ≤ k ∧ k < n ∧ ∃ i, i < C k ∧ tq_al z' 69 (8 * k + i) = s) ↔ kn A C n s := by
    intro N z' hr s
    constructor
    · rintro ⟨k, _, hk, i, hi, e⟩
      have := (hC k hk).2
      exact ⟨k, hk, i, hi, by rw [← hA k hk i hi, ← (hr.2 _).1 (by omega)]; exact e⟩
    · rintro ⟨k, hk, i, hi, e⟩
      have := (hC k hk).2
      exact ⟨k, Nat.zero_le _, hk, i, hi, by rw [(hr.2 _).1 (by omega), hA k hk i hi]; exact e⟩
  have M : ∀ b0 : Bool, (b0 = true ↔ ¬ hgp T) → wc_X12_kind_83 Q a1 a2 a3 (bi b0) z3 := by
    intro b0 hb0
    unfold wc_X12_kind_83
    rw [T3]
    refine sq_rMoved hT ex (fun t0 ht0 => ⟨_, rfl, ?_⟩)
    unfold wc_X12_kind_97
    refine lp_inv (fun m st => ∃ (b : Bool) (now : Int64) (z4 : tq_S), st = (bi b, now, nI m, z4) ∧ m ≤ 2 ∧ nz (mim m (bsh T)) now ∧ fr [(0, 3264), (3, 69), (2, 68)] z z4 ∧ rks (tq_al z 69) (tq_ai z 68) n (pl (shf T) (mean a1 a2) (4 * m)) z4 ∧ (b = true ↔ kbad A C n T (mean a1 a2) (4 * m))) 2 ?_ ⟨b0, t0, z3, rfl, by omega, ht0, f3, r3, by
      rw [hb0]
      exact ⟨Or.inl, fun h => h.elim id (fun ⟨m, hm, _⟩ => absurd hm (by omega))⟩⟩
    rintro m st hm ⟨b, now, z4, rfl, _, hnow, f4, r4, hb⟩ B hB
    simp only
    unfold wb_X12_kind_97
    have fin : (∀ j, 4 * m ≤ j → j < 8 → mean a1 a2 j = false) → wc_X12_kind_235 Q a3 (bi b) z4 := by
      intro hno
      have ep : ∀ d, 4 * m + d ≤ 8 → pl (shf T) (mean a1 a2) (4 * m + d) = pl (shf T) (mean a1 a2) (4 * m) ∧ (kbad A C n T (mean a1 a2) (4 * m + d) ↔ kbad A C n T (mean a1 a2) (4 * m)) := by
        intro d
        induction d with
        | zero => exact fun _ => ⟨rfl, Iff.rfl⟩
        | succ d ih =>
          intro hd
          have := ih (by omega)
          have hf := hno (4 * m + d) (by omega) (by omega)
          refine ⟨(pl_n hf).trans this.1, Iff.trans ?_ this.2⟩
          refine or_congr Iff.rfl ⟨fun ⟨j, h1, h2, h3⟩ => ⟨j, ?_, h2, h3⟩, fun ⟨j, h1, h2, h3⟩ => ⟨j, by omega, h2, h3⟩⟩
          have : j ≠ 4 * m + d := fun q => by rw [q, hf] at h2; cases h2
          omega
      obtain ⟨ep8, kb8⟩ := ep (8 - 4 * m) (by omega)
      rw [show 4 * m + (8 - 4 * m) = 8 by omega] at ep8 kb8
      rw [← ep8] at r4
      rw [← kb8] at hb
      have n4 : tq_fi z4 3290 = nI n := (fr_fi (k := 3290) f4 (by decide)).trans en
      unfold wc_X12_kind_235
      refine sq_isThrown (b := b) (a := 3) (fun z5 f5 g5 => ⟨_, rfl, fun h => ?_, fun h => ?_⟩)
      · rw [bi_0] at h
        have hbad : ¬ kbad A C n T (mean a1 a2) 8 := fun u => by rw [← hb, h] at u; cases u
        have n5 : tq_fi z5 3290 = nI n := (fr_fi (k := 3290) f5 (by decide)).trans n4
        rw [n5]
        refine ⟨i_in hn6 (by omega), fun z6 e6 z7 e7 z8 e8 => ?_⟩
        rw [i_cl (by omega)] at e6
        have f5' : fr FRk z z5 := fr_t (fr_m (by decide) f4) (fr_m (by decide) f5)
        have f6 : fr FRk z z6 := by rw [e6]; exact fr_sai (by decide) f5'
        have n6' : tq_fi z6 3290 = nI n := by rw [e6]; exact n5
        have f7 : fr FRk z z7 := by rw [e7]; exact fr_sfi (by decide) f6
        have f8 : fr FRk z z8 := by rw [e8]; exact fr_sfl (by decide) f7
        have n8 : tq_fi z8 3290 = nI (n + 1) := by
          have : tq_fi z8 3290 = tq_fi z6 3290 + 1 := by rw [e8, e7]; rfl
          rw [this, n6', i_1, i_add]
        have a8 : tq_ai z8 68 = tq_ai z4 68 := by
          rw [← fr_ai (k := 68) f5 (by decide), e8, e7, e6]; rfl
        have l8 : tq_al z8 69 = tq_al z4 69 := by
          rw [← fr_al (k := 69) f5 (by decide), e8, e7, e6]; rfl
        have i0 := i_m1 (a := n + 1) (by omega)
        rw [n8, show nI (n + 1) - 1 = nI n by rw [i_1, pk_sub (by omega)]; rfl, i_cl (by omega), a8, r4.1 n, if_pos rfl]
        refine ⟨i_in hn6 (by omega), k3 m3 hm3 (by omega) hn6 hbad z8 f8 (fun j hj => by rw [l8]; exact (r4.2 j).1 hj) (fun i hi => by rw [l8]; exact (r4.2 0).2 i hi) (fun k => by rw [a8]; exact r4.1 k) (fun k => ?_) n8 ?_ ?_⟩
        · have : tq_ai z8 67 k = upd (tq_ai z5 67) n a3 k := by rw [e8, e7, e6]; rfl
          rw [this, hm3.2.2, fr_ai (k := 67) f5 (by decide), fr_ai (k := 67) f4 (by decide)]; rfl
        · rw [e8]; rfl
        · have : tq_fi z8 3264 = tq_fi z5 3264 := by rw [e8, e7, e6]; rfl
          rw [this, g5, h]; rfl
      · rw [bi_n] at h
        have hbad : kbad A C n T (mean a1 a2) 8 := hb.mp h
        refine k2 m3 hm3 (by omega) hn6 hbad z5 (fr_t f4 (fr_m (by decide) f5)) (fun j hj => ?_) (fun k hk => ?_) ?_
        · rw [fr_al (k := 69) f5 (by decide)]; exact (r4.2 j).1 hj
        · rw [fr_ai (k := 68) f5 (by decide), r4.1 k, if_neg hk]
        · rw [g5, h]; rfl
    have step : m < 2 → (∀ t, t < (if a1 = 0 then 1 else 4) → mean a1 a2 (4 * m + t) = true) → (a1 = 0 → ∀ t, 1 ≤ t → t < 4 → mean a1 a2 (4 * m + t) = false) → wc_X12_kind_114 (fun b4 b5 b7 z => B (b4, b5, b7, z)) Q a1 a2 a3 (bi b) now (nI m) 0 z4 := by
      intro hm2 hyes hnot
      unfold wc_X12_kind_114
      have l4 : (if a1 = 0 then 1 else 4) ≤ 4 := by split <;> omega
      refine lp_inv (fun t st => ∃ (b' : Bool) (now' : Int64) (z5 : tq_S), st = (bi b', now', nI t, z5) ∧ nz (if a1 = 0 then mim m (bsh T) else tim t (mim m (bsh T))) now' ∧ fr [(0, 3264), (3, 69), (2, 68)] z z5 ∧ rks (tq_al z 69) (tq_ai z 68) n (pl (shf T) (mean a1 a2) (4 * m + t)) z5 ∧ (b' = true ↔ kbad A C n T (mean a1 a2) (4 * m + t))) (if a1 = 0 then 1 else 4) ?_ ⟨b, now, z4, rfl, by
        by_cases c : a1 = 0
        · rw [if_pos c]; exact hnow
        · rw [if_neg c]; exact hnow, f4, r4, hb⟩
      rintro t st ht ⟨b', now', z5, rfl, hnow', f5, r5, hb'⟩ B2 hB2
      simp only
      have n5 : tq_fi z5 3290 = nI n := (fr_fi (k := 3290) f5 (by decide)).trans en
      have pmt := pm (4 * m + t)
      have done : t = (if a1 = 0 then 1 else 4) → wc_X12_kind_222 (fun b4 b5 b7 z => B (b4, b5, b7, z)) Q a1 a2 a3 (bi b') now' (nI m) z5 := by
        intro et
        unfold wc_X12_kind_222
        have hW : nz (mim m (bsh T)) now' := by
          by_cases c : a1 = 0
          · rw [if_pos c] at hnow'; exact hnow'
          · rw [if_neg c] at hnow' et
            rw [et, tim_4] at hnow'; exact hnow'
        refine sq_mirrored hW.1 (nz_0 hW) (fun t' ht' => ⟨_, rfl, fun v ev => ?_⟩)
        rw [i_1, i_add] at ev
        subst ev
        have hN : pl (shf T) (mean a1 a2) (4 * (m + 1)) = pl (shf T) (mean a1 a2) (4 * m + t) ∧ (kbad A C n T (mean a1 a2) (4 * (m + 1)) ↔ kbad A C n T (mean a1 a2) (4 * m + t)) := by
          by_cases c : a1 = 0
          · rw [if_pos c] at et
            subst et
            have x1 := hnot c 1 (by omega) (by omega)
            have x2 := hnot c 2 (by omega) (by omega)
            have x3 := hnot c 3 (by omega) (by omega)
            refine ⟨?_, ?_⟩
            · rw [show 4 * (m + 1) = 4 * m + 1 + 1 + 1 + 1 by omega, pl_n (m := 4 * m + 1 + 1 + 1) x3, pl_n (m := 4 * m + 1 + 1) x2, pl_n (m := 4 * m + 1) x1]
            · refine or_congr Iff.rfl ⟨fun ⟨j, h1, h2, h3⟩ => ⟨j, ?_, h2, h3⟩, fun ⟨j, h1, h2, h3⟩ => ⟨j, by omega, h2, h3⟩⟩
              have y1 : j ≠ 4 * m + 1 := fun q => by rw [q, x1] at h2; cases h2
              have y2 : j ≠ 4 * m + 2 := fun q => by rw [q, x2] at h2; cases h2
              have y3 : j ≠ 4 * m + 3 := fun q => by rw [q, x3] at h2; cases h2
              omega
          · rw [if_neg c] at et
            subst et
            exact ⟨rfl, Iff.rfl⟩
        refine hB (by omega) _ ⟨b', t', z5, rfl, by omega, nz_tl (tl_mir hW.2.1) ht', f5, ?_, ?_⟩
        · rw [hN.1]; exact r5
        · rw [hN.2]; exact hb'
      unfold wb_X12_kind_114
      have body : ∀ L, L = (if a1 = 0 then 1 else 4) → wc_X12_kind_125 (fun b4 b5 b7 z => B (b4, b5, b7, z)) (fun b4 b5 b8 z => B2 (b4, b5, b8, z)) Q a1 a2 a3 (bi b') now' (nI m) (nI t) (nI L) (nI t) z5 := by
        intro L eL
        unfold wc_X12_kind_125
        rw [i_le (by omega) (by omega)]
        refine ⟨fun q => done (by omega), fun q => ?_⟩
        have ht4 : t < (if a1 = 0 then 1 else 4) := by omega
        have me1 := hyes t ht4
        have es : now' = shf T (4 * m + t) := by
          unfold shf
          rw [mo_m hm2 (by omega)]
          by_cases c : a1 = 0
          · rw [if_pos c] at ht4 hnow'
            have : t = 0 := by omega
            subst this
            exact nzs_e hnow'
          · rw [if_neg c] at hnow'
            exact nzs_e hnow'
        rw [n5]
        refine sq_isKnown (C := C) (lo := 0) (hi := n) (by omega) (by omega) (fun k _ hk => ⟨by rw [r5.1 k, if_neg (by omega)]; exact (hC k hk).1, (hC k hk).2⟩) (fun b1 hb1 => ⟨_, rfl, fun v3 e3 => ?_⟩)
        rw [oth _ z5 r5, es] at hb1
        have ev3 : v3 = bi (b' || b1) := by
          rw [e3]; cases b' <;> cases b1 <;> decide +kernel
        subst ev3
        have hb2 : (b' || b1) = true ↔ kbad A C n T (mean a1 a2) (4 * m + (t + 1)) := by
          rw [Bool.or_eq_true, hb', hb1]
          constructor
          · rintro ((h | ⟨j, h1, h2, h3⟩) | h)
            · exact Or.inl h
            · exact Or.inr ⟨j, by omega, h2, h3⟩
            · exact Or.inr ⟨4 * m + t, by omega, me1, h⟩
          · rintro (h | ⟨j, h1, h2, h3⟩)
            · exact Or.inl (Or.inl h)
            · by_cases q2 : j = 4 * m + t
              · subst q2; exact Or.inr h3
              · exact Or.inl (Or.inr ⟨j, by omega, h2, h3⟩)
        have go : ∀ z6, fr [(0, 3264), (3, 69), (2, 68)] z z6 → rks (tq_al z 69) (tq_ai z 68) n (pl (shf T) (mean a1 a2) (4 * m + (t + 1))) z6 → wc_X12_kind_200 (fun b4 b5 b7 z => B (b4, b5, b7, z)) (fun b4 b5 b8 z => B2 (b4, b5, b8, z)) Q a1 a2 a3 (bi (b' || b1)) now' (nI m) (nI t) z6 := by
          intro z6 f6 r6
          unfold wc_X12_kind_200
          refine ⟨fun c => ?_, fun c => ?_⟩
          · unfold wc_X12_kind_214
            intro v ev
            rw [i_1, i_add] at ev
            subst ev
            refine hB2 ht4 _ ⟨_, now', z6, rfl, ?_, f6, r6, hb2⟩
            rw [if_pos c] at hnow' ⊢; exact hnow'
          · rw [if_neg c] at hnow'
            refine sq_turned hnow'.1 (nz_0 hnow') (fun t' ht' => ⟨_, rfl, ?_⟩)
            unfold wc_X12_kind_214
            intro v ev
            rw [i_1, i_add] at ev
            subst ev
            refine hB2 ht4 _ ⟨_, t', z6, rfl, ?_, f6, r6, hb2⟩
            rw [if_neg c]
            exact nz_tl (tl_trn hnow'.2.1) ht'
        rw [n5, i_1, i_add]
        refine sq_isKnown (C := fun _ => (pl (shf T) (mean a1 a2) (4 * m + t)).1) (lo := n) (hi := n + 1) (by omega) (by omega) (fun k h1 h2 => ⟨by rw [r5.1 k, if_pos (by omega)], by omega⟩) (fun b2 hb3 => ⟨_, rfl, fun h => ?_, fun h => ?_⟩)
        · rw [bi_n, hb3] at h
          obtain ⟨k, h1, h2, i, hi, e⟩ := h
          have : k = n := by omega
          subst this
          refine go z5 f5 ?_
          rw [show 4 * m + (t + 1) = 4 * m + t + 1 by omega, pl_k ⟨i, hi, by rw [← (r5.2 0).2 i hi, ← es]; exact e⟩]
          exact r5
        · rw [bi_0] at h
          have hno : ¬ ∃ i, i < (pl (shf T) (mean a1 a2) (4 * m + t)).1 ∧ (pl (shf T) (mean a1 a2) (4 * m + t)).2 i = shf T (4 * m + t) := by
            rintro ⟨i, hi, e⟩
            have : b2 = true := hb3.mpr ⟨n, by omega, by omega, i, hi, by rw [(r5.2 0).2 i hi, es]; exact e⟩
            rw [h] at this; cases this
          have ep := pl_y me1 hno
          rw [n5, i_cl (by omega), r5.1 n, if_pos rfl, i_8, pk_mul, i_add, i_cl (by omega)]
          refine ⟨i_in hn6 (by omega), i_in (by omega) (by omega), fun z6 e6 => ?_⟩
          have f6 : fr [(0, 3264), (3, 69), (2, 68)] z z6 := by rw [e6]; exact fr_sal (by decide) f5
          have n6' : tq_fi z6 3290 = nI n := by rw [e6]; exact n5
          have a6 : tq_ai z6 68 = tq_ai z5 68 := by rw [e6]; rfl
          rw [n6', i_cl (by omega), a6, r5.1 n, if_pos rfl, i_add]
          refine ⟨i_in hn6 (by omega), i_in hn6 (by omega), fun z7 e7 => ?_⟩
          have f7 : fr [(0, 3264), (3, 69), (2, 68)] z z7 := by rw [e7]; exact fr_sai (by decide) f6
          refine go z7 f7 ?_
          rw [show 4 * m + (t + 1) = 4 * m + t + 1 by omega, ep]
          refine ⟨fun k => ?_, fun j => ⟨fun hj => ?_, fun i hi => ?_⟩⟩
          · rw [e7, rw_aie]
            show (if k = n then nI ((pl (shf T) (mean a1 a2) (4 * m + t)).1 + 1) else tq_ai z5 68 k) = _
            by_cases q2 : k = n
            · rw [if_pos q2, if_pos q2]
            · rw [if_neg q2, if_neg q2, r5.1 k, if_neg q2]
          · have : tq_al z7 69 j = (if j = 8 * n + (pl (shf T) (mean a1 a2) (4 * m + t)).1 then now' else tq_al z5 69 j) := by
              rw [e7, e6]; rfl
            rw [this, if_neg (by omega)]
            exact (r5.2 j).1 hj
          · have hi : i < (pl (shf T) (mean a1 a2) (4 * m + t)).1 + 1 := hi
            have : tq_al z7 69 (8 * n + i) = (if 8 * n + i = 8 * n + (pl (shf T) (mean a1 a2) (4 * m + t)).1 then now' else tq_al z5 69 (8 * n + i)) := by
              rw [e7, e6]; rfl
            rw [this]
            show _ = if i = (pl (shf T) (mean a1 a2) (4 * m + t)).1 then shf T (4 * m + t) else (pl (shf T) (mean a1 a2) (4 * m + t)).2 i
            by_cases q2 : i = (pl (shf T) (mean a1 a2) (4 * m + t)).1
            · rw [if_pos (by omega), if_pos q2]; exact es
            · rw [if_neg (by omega), if_neg q2]
              exact (r5.2 0).2 i (by omega)
      refine ⟨fun c => ?_, fun c => ?_⟩
      · exact body 1 (by rw [if_pos c])
      · exact body 4 (by rw [if_neg c])
    have mt : ∀ j, mean a1 a2 j = true ↔ (a1 = 0 → j % 4 = 0) ∧ (a2 = 0 → j < 4) := by
      intro j
      unfold mean
      rw [Bool.and_eq_true, Bool.or_eq_true, Bool.or_eq_true, Bool.not_eq_true', Bool.not_eq_true', decide_eq_false_iff_not, decide_eq_false_iff_not, decide_eq_true_eq, decide_eq_true_eq, Decidable.imp_iff_not_or, Decidable.imp_iff_not_or]
    have st2 : m < 2 → (a2 = 0 → m = 0) → wc_X12_kind_114 (fun b4 b5 b7 z => B (b4, b5, b7, z)) Q a1 a2 a3 (bi b) now (nI m) 0 z4 := by
      intro hm2 ha2
      refine step hm2 (fun t ht => ?_) (fun c t h1 h4 => ?_)
      · rw [mt]
        by_cases c : a1 = 0
        · rw [if_pos c] at ht
          exact ⟨fun _ => by omega, fun h => by have := ha2 h; omega⟩
        · rw [if_neg c] at ht
          exact ⟨fun h => absurd h c, fun h => by have := ha2 h; omega⟩
      · cases e : mean a1 a2 (4 * m + t)
        · rfl
        · have := ((mt _).mp e).1 c
          omega
    have noj : a2 = 0 → 1 ≤ m → ∀ j, 4 * m ≤ j → j < 8 → mean a1 a2 j = false := by
      intro c h1 j h2 h3
      cases e : mean a1 a2 j
      · rfl
      · have := ((mt _).mp e).2 c
        omega
    refine ⟨fun c => ?_, fun c => ?_⟩
    · unfold wc_X12_kind_108
      rw [i_1, i_le (by omega) (by omega)]
      exact ⟨fun q => fin (noj c q), fun q => st2 (by omega) (fun _ => by omega)⟩
    · unfold wc_X12_kind_108
      rw [i_2, i_le (by omega) (by omega)]
      exact ⟨fun q => fin (fun j h1 h2 => absurd h1 (by omega)), fun q => st2 (by omega) (fun h => absurd h c)⟩
  rw [T3]
  exact sq_rHangs hT l1 l2 (fun u => ⟨_, rfl, fun h => absurd rfl h, fun _ => M true ⟨fun _ => u, fun _ => rfl⟩⟩) (fun u => ⟨_, rfl, fun _ => M false ⟨fun h => (by cases h), fun h => absurd u h⟩, fun h => absurd h (by decide +kernel)⟩)
end RKIND
