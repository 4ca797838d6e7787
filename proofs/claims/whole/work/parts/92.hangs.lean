/-! ===== whether the typed cells hang together ===== -/
def n6 (a b : Nat) : Bool := decide (b = a + 6) || decide (a = b + 6) || (decide (b = a + 1) && !decide (a % 6 = 5)) || (decide (a = b + 1) && !decide (b % 6 = 5))
theorem n6_t {a b : Nat} : n6 a b = true ↔ b = a + 6 ∨ a = b + 6 ∨ (b = a + 1 ∧ a % 6 ≠ 5) ∨ (a = b + 1 ∧ b % 6 ≠ 5) := by
  unfold n6
  simp only [Bool.or_eq_true, Bool.and_eq_true, decide_eq_true_eq, Bool.not_eq_true', decide_eq_false_iff_not, or_assoc, ne_eq]
/-- the typed cells hang together -/
def hgp (T : Int64) : Prop := ∃ lo, ct T lo = true ∧ (∀ j, j < lo → ct T j = false) ∧ ∀ j, ct T j = true → rc n6 (ct T) lo j
/-- a part of them, reached from the lowest -/
def hgr (T : Int64) (lo : Nat) (v : Int64) : Prop := ct v lo = true ∧ (∀ j, ct v j = true → ct T j = true) ∧ ∀ j, ct v j = true → rc n6 (ct T) lo j
def hgc (T v : Int64) : Prop := ∀ a b, ct v a = true → n6 a b = true → ct T b = true → ct v b = true
section HNG
variable {z : tq_S} {Q : tq_O → tq_S → Prop} {T : Int64} {lo : Nat}
theorem hg_iff {v : Int64} (l1 : ct T lo = true) (l2 : ∀ j, j < lo → ct T j = false) (h : hgr T lo v) (hc : hgc T v) : v = T ↔ hgp T := by
  constructor
  · intro e
    exact ⟨lo, l1, l2, fun j hj => h.2.2 j (by rw [e]; exact hj)⟩
  · rintro ⟨lo', m1, m2, m3⟩
    have e : lo' = lo := by
      rcases Nat.lt_trichotomy lo lo' with q | q | q
      · rw [m2 lo q] at l1; cases l1
      · exact q.symm
      · rw [l2 lo' q] at m1; cases m1
    subst e
    refine ct_ext (fun i hi => ?_)
    rw [Bool.eq_iff_iff]
    exact ⟨h.2.1 i, fun u => m3 i u (ct v) h.1 hc⟩
theorem hg_0 (l1 : ct T lo = true) (l2 : ∀ j, j < lo → ct T j = false) : hgr T lo (T &&& (-T)) := by
  have c : ∀ j, ct (T &&& (-T)) j = true ↔ j = lo := by
    intro j
    rw [ct_low, Bool.and_eq_true, decide_eq_true_eq]
    constructor
    · rintro ⟨a, b⟩
      rcases Nat.lt_trichotomy j lo with q | q | q
      · rw [l2 j q] at a; cases a
      · exact q
      · rw [b lo q] at l1; cases l1
    · rintro rfl
      exact ⟨l1, l2⟩
  refine ⟨(c lo).mpr rfl, fun j hj => ?_, fun j hj => ?_⟩
  · rw [(c j).mp hj]; exact l1
  · rw [(c j).mp hj]; exact rc_r
theorem hg_add {v u : Int64} (h : hgr T lo v) (hu : ∀ j, ct u j = true → ct v j = true ∨ (ct T j = true ∧ ∃ i, ct v i = true ∧ n6 i j = true)) (hl : ct u lo = true) : hgr T lo u := by
  refine ⟨hl, fun j hj => ?_, fun j hj => ?_⟩
  · rcases hu j hj with q | q
    · exact h.2.1 j q
    · exact q.1
  · rcases hu j hj with q | ⟨q, i, c, n⟩
    · exact h.2.2 j q
    · exact rc_n (h.2.2 i c) n q
theorem ct_lc6 : ∀ i : Fin 64, ct ((34905131040 : Int64) ^^^ (-1 : Int64)) i.val = !(decide (i.val % 6 = 5) && decide (i.val < 36)) := by decide +kernel
theorem ct_fc6 : ∀ i : Fin 64, ct (-1090785346 : Int64) i.val = !(decide (i.val % 6 = 0) && decide (i.val < 36)) := by decide +kernel
theorem hg_step {v : Int64} (hT : wS T) (hv : wS v) (j : Nat) : ct (v ||| (T &&& ((((v <<< ((Int32.toInt64 (nI 6)) &&& 63)) ||| ((Int64.toUInt64 v) >>> ((Int32.toInt64 (nI 6)).toUInt64 &&& Int64.toUInt64 63)).toInt64) ||| ((v &&& ((34905131040 : Int64) ^^^ (-1 : Int64))) <<< ((Int32.toInt64 (nI 1)) &&& 63))) ||| ((Int64.toUInt64 (v &&& (-1090785346 : Int64))) >>> ((Int32.toInt64 (nI 1)).toUInt64 &&& Int64.toUInt64 63)).toInt64))) j = true ↔ ct v j = true ∨ (ct T j = true ∧ ∃ i, ct v i = true ∧ n6 i j = true) := by
  rw [ct_or, ct_and, ct_or, ct_or, ct_or, ct_shl _ j (by omega), ct_shr _ j (by omega), ct_shl _ j (by omega), ct_shr _ j (by omega), ct_and, ct_and]
  simp only [Bool.or_eq_true, Bool.and_eq_true, decide_eq_true_eq]
  refine or_congr Iff.rfl (and_congr_right fun tj => ?_)
  have j36 := hT j tj
  have lc : ∀ i, i < 64 → (ct ((34905131040 : Int64) ^^^ (-1 : Int64)) i = true ↔ ¬ (i % 6 = 5 ∧ i < 36)) := fun i hi => by
    rw [ct_lc6 ⟨i, hi⟩, Bool.not_eq_true', Bool.and_eq_false_iff, decide_eq_false_iff_not, decide_eq_false_iff_not, Decidable.not_and_iff_or_not]
  have fc : ∀ i, i < 64 → (ct (-1090785346 : Int64) i = true ↔ ¬ (i % 6 = 0 ∧ i < 36)) := fun i hi => by
    rw [ct_fc6 ⟨i, hi⟩, Bool.not_eq_true', Bool.and_eq_false_iff, decide_eq_false_iff_not, decide_eq_false_iff_not, Decidable.not_and_iff_or_not]
  rw [lc (j - 1) (by omega), fc (1 + j) (by omega)]
  constructor
  · rintro (((⟨_, a, b⟩ | b) | ⟨_, a, b, c⟩) | ⟨b, c⟩)
    · exact ⟨_, b, n6_t.mpr (by omega)⟩
    · exact ⟨_, b, n6_t.mpr (by omega)⟩
    · exact ⟨_, b, n6_t.mpr (by omega)⟩
    · have := hv _ b
      exact ⟨_, b, n6_t.mpr (by omega)⟩
  · rintro ⟨i, c, n⟩
    have i36 := hv i c
    rw [n6_t] at n
    rcases n with n | n | ⟨n, m⟩ | ⟨n, m⟩
    · exact Or.inl (Or.inl (Or.inl ⟨by omega, by omega, by rw [show j - 6 = i by omega]; exact c⟩))
    · exact Or.inl (Or.inl (Or.inr (by rw [show 6 + j = i by omega]; exact c)))
    · exact Or.inl (Or.inr ⟨by omega, by omega, by rw [show j - 1 = i by omega]; exact c, by omega⟩)
    · exact Or.inr ⟨by rw [show 1 + j = i by omega]; exact c, by omega⟩
theorem sq_cHangs (eT : tq_fl z 1476 = T) (hT : wS T) (h6 : fb_ct (ct T) 64 ≤ 6) (l1 : ct T lo = true) (l2 : ∀ j, j < lo → ct T j = false) (k0 : ¬ hgp T → Q (.inl (some (.int 0))) z) (k1 : hgp T → Q (.inl (some (.int 1))) z) : wm_X8_hangsTogether z Q := by
  unfold wm_X8_hangsTogether
  intro v1 e1
  rw [eT] at e1
  subst e1
  have h0 := hg_0 l1 l2
  unfold wc_X8_hangsTogether_13
  refine lp_inv (fun m st => ∃ v, st = (v, nI m, z) ∧ hgr T lo v ∧ (hgc T v ∨ m + 1 ≤ fb_ct (ct v) 64)) 6 ?_ ⟨_, rfl, h0, Or.inr (fb_ct_pos.mpr ⟨lo, by have := hT lo l1; omega, h0.1⟩)⟩
  rintro m st hm ⟨v, rfl, hv, hc⟩ B hB
  simp only
  unfold wb_X8_hangsTogether_13
  rw [i_6, i_le (by omega) (by omega), eT]
  refine ⟨fun q => ?_, fun q => ?_⟩
  · have hc' : hgc T v := by
      rcases hc with c | c
      · exact c
      · have := fb_ct_sub (p := ct v) (q := ct T) (n := 64) (fun k _ => hv.2.1 k)
        omega
    have key := hg_iff l1 l2 hv hc'
    unfold wc_X8_hangsTogether_66
    rw [eT]
    exact ⟨fun u => k0 (fun w => u (key.mpr w)), fun u => k1 (key.mp u)⟩
  · intro v2 e2 v3 e3
    have st := hg_step (v := v) hT (fun k e => hT k (hv.2.1 k e))
    rw [show (1 : Int32) = nI 1 from rfl] at e2 e3
    rw [← e2] at st
    rw [i_add] at e3
    subst e3
    refine hB (by omega) _ ⟨v2, rfl, hg_add hv (fun j e => (st j).mp e) ((st lo).mpr (Or.inl hv.1)), ?_⟩
    by_cases e : v = v2
    · refine Or.inl (fun a b ca n cb => ?_)
      rw [← e] at ca
      exact (st b).mpr (Or.inr ⟨cb, a, ca, n⟩)
    · rcases hc with c | c
      · exact absurd (ct_ext (fun i _ => by
          rw [Bool.eq_iff_iff, st]
          exact ⟨Or.inl, fun u => u.elim id (fun ⟨cb, a, ca, n⟩ => c a i ca n cb)⟩)) e
      · have := ct_mono (a := v) (b := v2) (fun j e => (st j).mpr (Or.inl e)) e
        exact Or.inr (by omega)
theorem sq_isBit {s : Int64} (hs : wS s) {X Y : Int32} {a b : Int} (ha : X.toInt = a) (hb : Y.toInt = b) (k0 : ¬ bsh s a b → Q (.inl (some (.int 0))) z) (k1 : bsh s a b → Q (.inl (some (.int 1))) z) : wm_X12_isBit s X Y z Q := by
  unfold wm_X12_isBit
  have fo : ∀ {W : Int32} {c : Int}, W.toInt = c → 0 ≤ c → c < 6 → fi (0 : Int32).toInt (5 : Int32).toInt W = true := by
    intro W c h1 h2 h3
    have h8 : (5 : Int32).toInt = 5 := by decide +kernel
    unfold fi
    rw [i_z, h8, h1, decide_eq_true h2, decide_eq_true (by omega : c ≤ 5)]; rfl
  refine sq_isIn ⟨_, rfl, fun h1 => k0 fun u => ?_, fun h1 => ?_⟩
  · rw [bi_0, fo ha u.1 u.2.1] at h1; cases h1
  · rw [bi_n, fi_5] at h1
    obtain ⟨x, hx, rfl⟩ := h1
    rw [i_ti (by omega)] at ha
    refine sq_isIn ⟨_, rfl, fun h2 => k0 fun u => ?_, fun h2 => ?_⟩
    · rw [bi_0, fo hb u.2.2.1 u.2.2.2.1] at h2; cases h2
    · rw [bi_n, fi_5] at h2
      obtain ⟨y, hy, rfl⟩ := h2
      rw [i_ti (by omega)] at hb
      rw [i_6, pk_mul, i_add, ct_s1 hs (by omega)]
      have e : bsh s a b ↔ ct s (6 * y + x) = true := by
        rw [← ha, ← hb]
        unfold bsh
        rw [show (6 * (y : Int) + (x : Int)).toNat = 6 * y + x by omega]
        exact ⟨fun u => u.2.2.2.2, fun u => ⟨by omega, by omega, by omega, by omega, u⟩⟩
      exact ⟨fun u => k0 (fun w => u (e.mp w)), fun u => k1 (e.mpr u)⟩
theorem n6_b {u : Int64} (hu : wS u) {k : Nat} (hk : k < 36) : (∃ i, ct u i = true ∧ n6 i k = true) ↔ bsh u (((k % 6 : Nat) : Int) - 1) ((k / 6 : Nat) : Int) ∨ bsh u (((k % 6 : Nat) : Int) + 1) ((k / 6 : Nat) : Int) ∨ bsh u ((k % 6 : Nat) : Int) (((k / 6 : Nat) : Int) - 1) ∨ bsh u ((k % 6 : Nat) : Int) (((k / 6 : Nat) : Int) + 1) := by
  constructor
  · rintro ⟨i, c, n⟩
    have i36 := hu i c
    rw [n6_t] at n
    rcases n with n | n | ⟨n, m⟩ | ⟨n, m⟩
    · exact Or.inr (Or.inr (Or.inl ⟨by omega, by omega, by omega, by omega, by rw [← c]; congr 1; omega⟩))
    · exact Or.inr (Or.inr (Or.inr ⟨by omega, by omega, by omega, by omega, by rw [← c]; congr 1; omega⟩))
    · exact Or.inl ⟨by omega, by omega, by omega, by omega, by rw [← c]; congr 1; omega⟩
    · exact Or.inr (Or.inl ⟨by omega, by omega, by omega, by omega, by rw [← c]; congr 1; omega⟩)
  · rintro (⟨a, b, c, d, e⟩ | ⟨a, b, c, d, e⟩ | ⟨a, b, c, d, e⟩ | ⟨a, b, c, d, e⟩)
    · exact ⟨_, e, n6_t.mpr (by omega)⟩
    · exact ⟨_, e, n6_t.mpr (by omega)⟩
    · exact ⟨_, e, n6_t.mpr (by omega)⟩
    · exact ⟨_, e, n6_t.mpr (by omega)⟩
theorem sq_rHangs (hT : wS T) (l1 : ct T lo = true) (l2 : ∀ j, j < lo → ct T j = false) (k0 : ¬ hgp T → Q (.inl (some (.int 0))) z) (k1 : hgp T → Q (.inl (some (.int 1))) z) : wm_X12_hangs T z Q := by
  unfold wm_X12_hangs
  intro v1 e1
  subst e1
  have h0 := hg_0 l1 l2
  unfold wc_X12_hangs_8
  refine lp_inv (fun m st => ∃ v b, st = (v, b, z) ∧ hgr T lo v ∧ ((v = b ∧ hgc T v) ∨ (v ≠ b ∧ m ≤ fb_ct (ct v) 64))) 66 ?_ ⟨_, _, rfl, h0, Or.inr ⟨fun e => ?_, by omega⟩⟩
  rotate_left
  · have := h0.1
    rw [e, ct_0] at this; cases this
  rintro m st hm ⟨v, b, rfl, hv, hc⟩ B hB
  simp only
  unfold wb_X12_hangs_8
  refine ⟨fun q => ?_, fun q => ?_⟩
  · rcases hc with ⟨_, c⟩ | ⟨c, _⟩
    · have key := hg_iff l1 l2 hv c
      unfold wc_X12_hangs_128
      exact ⟨fun u => k0 (fun w => u (key.mpr w)), fun u => k1 (key.mp u)⟩
    · exact absurd q c
  · rcases hc with ⟨c, _⟩ | ⟨_, hm2⟩
    · exact absurd c q
    have c64 := fb_ct_le (ct v) 64
    unfold wc_X12_hangs_21
    refine lp_inv (fun n st => ∃ u, st = (u, nI n, z) ∧ hgr T lo u ∧ (∀ j, ct v j = true → ct u j = true) ∧ ∀ j, j < n → ct T j = true → (∃ i, ct v i = true ∧ n6 i j = true) → ct u j = true) 36 ?_ ⟨v, rfl, hv, fun _ h => h, fun j hj => absurd hj (by omega)⟩
    rintro n st hn ⟨u, rfl, hu, hvu, hj⟩ B2 hB2
    simp only
    unfold wb_X12_hangs_21
    rw [i_36, i_le (by omega) (by omega)]
    refine ⟨fun q2 => ?_, fun q2 => ?_⟩
    · have : n = 36 := by omega
      subst this
      unfold wc_X12_hangs_125
      refine hB (by omega) _ ⟨u, v, rfl, hu, ?_⟩
      by_cases e : u = v
      · refine Or.inl ⟨e, fun a b ca nn cb => hj b (hT b cb) cb ⟨a, ?_, nn⟩⟩
        rw [← e]; exact ca
      · have := ct_mono (a := v) (b := u) hvu (fun e2 => e e2.symm)
        exact Or.inr ⟨e, by omega⟩
    · intro x1 g1 y1 g2
      rw [i_6, pk_rem (by omega) (by omega) (by omega)] at g1
      rw [i_6, pk_div (by omega) (by omega) (by omega)] at g2
      subst g1; subst g2
      have wu : wS u := fun k e => hT k (hu.2.1 k e)
      have nbk := n6_b wu (k := n) (by omega)
      have t1 : (1 : Int32).toInt = 1 := rfl
      have xm : (nI (n % 6) - 1).toInt = ((n % 6 : Nat) : Int) - 1 := pk_sub_toInt (a := n % 6) (b := 1) (by omega) (by omega)
      have ym : (nI (n / 6) - 1).toInt = ((n / 6 : Nat) : Int) - 1 := pk_sub_toInt (a := n / 6) (b := 1) (by omega) (by omega)
      have xp : (nI (n % 6) + 1).toInt = ((n % 6 : Nat) : Int) + 1 := by rw [i_1, i_add, i_ti (by omega)]; omega
      have yp : (nI (n / 6) + 1).toInt = ((n / 6 : Nat) : Int) + 1 := by rw [i_1, i_add, i_ti (by omega)]; omega
      have x0 : (nI (n % 6)).toInt = ((n % 6 : Nat) : Int) := i_ti (by omega)
      have y0 : (nI (n / 6)).toInt = ((n / 6 : Nat) : Int) := i_ti (by omega)
      have nx : ∀ u', hgr T lo u' → (∀ j, ct u j = true → ct u' j = true) → (ct T n = true → (∃ i, ct v i = true ∧ n6 i n = true) → ct u' n = true) → B2 (u', nI n + 1, z) := by
        intro u' h1 h2 h3
        rw [i_1, i_add]
        refine hB2 (by omega) _ ⟨u', rfl, h1, fun j e => h2 j (hvu j e), fun j hjn ct ex => ?_⟩
        by_cases e : j = n
        · subst e; exact h3 ct ex
        · exact h2 j (hj j (by omega) ct ex)
      have yes : (∃ i, ct u i = true ∧ n6 i n = true) → wc_X12_hangs_94 (fun b2 b4 z => B (b2, b4, z)) (fun b2 b6 z => B2 (b2, b6, z)) Q T u v (nI n) z := by
        intro ex
        unfold wc_X12_hangs_94 wc_X12_hangs_99 wc_X12_hangs_117
        refine ⟨fun h => absurd h (by decide +kernel), fun _ => ?_⟩
        intro w1 f1 w2 f2
        subst f2
        have cw : ∀ j, ct w1 j = true ↔ ct u j = true ∨ (ct T j = true ∧ j = n) := by
          intro j
          rw [f1, ct_or, Bool.or_eq_true, ct_and, Bool.and_eq_true, ct_bit j (by omega), decide_eq_true_eq]
        refine nx w1 (hg_add hu (fun j e => ?_) ((cw lo).mpr (Or.inl hu.1))) (fun j e => (cw j).mpr (Or.inl e)) (fun c _ => (cw n).mpr (Or.inr ⟨c, rfl⟩))
        rcases (cw j).mp e with q3 | ⟨q3, rfl⟩
        · exact Or.inl q3
        · exact Or.inr ⟨q3, ex⟩
      refine sq_isBit wu xm y0 (fun n1 => ?_) (fun h => ⟨_, rfl, fun _ => yes (nbk.mpr (Or.inl h)), fun h => absurd h (by decide +kernel)⟩)
      refine ⟨_, rfl, fun h => absurd rfl h, fun _ => ?_⟩
      refine sq_isBit wu xp y0 (fun n2 => ?_) (fun h => ⟨_, rfl, fun _ => yes (nbk.mpr (Or.inr (Or.inl h))), fun h => absurd h (by decide +kernel)⟩)
      refine ⟨_, rfl, fun h => absurd rfl h, fun _ => ?_⟩
      refine sq_isBit wu x0 ym (fun n3 => ?_) (fun h => ⟨_, rfl, fun _ => yes (nbk.mpr (Or.inr (Or.inr (Or.inl h)))), fun h => absurd h (by decide +kernel)⟩)
      refine ⟨_, rfl, fun h => absurd rfl h, fun _ => ?_⟩
      refine sq_isBit wu x0 yp (fun n4 => ?_) (fun h => ⟨_, rfl, fun h => absurd h (by decide +kernel), fun _ => yes (nbk.mpr (Or.inr (Or.inr (Or.inr h))))⟩)
      refine ⟨_, rfl, fun _ => ?_, fun h => absurd rfl h⟩
      unfold wc_X12_hangs_99 wc_X12_hangs_117
      refine ⟨fun _ => ?_, fun h => absurd rfl h⟩
      intro w1 f1 w2 f2
      subst f2
      have e : w1 = u := by rw [f1]; exact ct_ext (fun i _ => by rw [ct_or, ct_0, Bool.or_false])
      subst e
      refine nx w1 hu (fun _ h => h) (fun _ ⟨i, c, nn⟩ => absurd (nbk.mp ⟨i, hvu i c, nn⟩) ?_)
      rintro (h | h | h | h)
      · exact n1 h
      · exact n2 h
      · exact n3 h
      · exact n4 h
end HNG
