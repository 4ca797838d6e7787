/-! ===== neighbours, and what hangs together ===== -/
def nb (w : Nat) (r : Bool) (a b : Nat) : Bool := decide (b = a + 8) || decide (a = b + 8) || (decide (b = a + 1) && decide (a % 8 + 1 < w)) || (decide (a = b + 1) && decide (b % 8 + 1 < w)) || (r && decide (a % 8 = 0) && decide (b = a + (w - 1))) || (r && decide (b % 8 = 0) && decide (a = b + (w - 1)))
theorem nb_s {w : Nat} {r : Bool} {a b : Nat} (h : nb w r a b = true) : nb w r b a = true := by
  unfold nb at h ⊢
  simp only [Bool.or_eq_true, Bool.and_eq_true, decide_eq_true_eq] at h ⊢
  rcases h with ((((h | h) | h) | h) | h) | h
  · exact Or.inl (Or.inl (Or.inl (Or.inl (Or.inr h))))
  · exact Or.inl (Or.inl (Or.inl (Or.inl (Or.inl h))))
  · exact Or.inl (Or.inl (Or.inr h))
  · exact Or.inl (Or.inl (Or.inl (Or.inr h)))
  · exact Or.inr h
  · exact Or.inl (Or.inr h)
def rc (N : Nat → Nat → Bool) (W : Nat → Bool) (c j : Nat) : Prop := ∀ T : Nat → Bool, T c = true → (∀ a b, T a = true → N a b = true → W b = true → T b = true) → T j = true
section RC
variable {N : Nat → Nat → Bool} {W : Nat → Bool} {a b c : Nat}
theorem rc_r : rc N W c c := fun _ h _ => h
theorem rc_t (h1 : rc N W a b) (h2 : rc N W b c) : rc N W a c := fun T hT hc => h2 T (h1 T hT hc) hc
theorem rc_n (h1 : rc N W a b) (h2 : N b c = true) (h3 : W c = true) : rc N W a c := fun T hT hc => hc b c (h1 T hT hc) h2 h3
theorem rc_w (h0 : W a = true) (h1 : rc N W a b) : W b = true := h1 W h0 (fun _ _ _ _ h => h)
theorem rc_s (hs : ∀ x y, N x y = true → N y x = true) (h0 : W a = true) (h1 : rc N W a b) : rc N W b a := by
  -- the cells from which a is reached, as a set
  intro T hT hc
  refine Classical.byContradiction fun hn => ?_
  have h2 := h1 (fun x => !T x && W x) (by
    show (!T a && W a) = true
    rw [h0, Bool.and_true]
    cases hq : T a
    · rfl
    · exact absurd hq hn) (fun x y hx hxy hy => by
    simp only [Bool.and_eq_true, Bool.not_eq_true'] at hx ⊢
    refine ⟨?_, hy⟩
    cases hq : T y
    · rfl
    · have := hc y x hq (hs x y hxy) hx.2
      rw [hx.1] at this; cases this)
  simp only [Bool.and_eq_true, Bool.not_eq_true'] at h2
  rw [h2.1] at hT; cases hT
end RC
/-- the first cell of its group, none of which touches the rim -/
def rc_l (N : Nat → Nat → Bool) (W M : Nat → Bool) (c : Nat) : Prop := W c = true ∧ (∀ j, rc N W c j → c ≤ j) ∧ ∀ j, rc N W c j → M j = false
noncomputable def rc_k (N : Nat → Nat → Bool) (W M : Nat → Bool) : Nat → Bool := fun c => @decide (rc_l N W M c) (Classical.propDecidable _)
theorem rc_kt {N : Nat → Nat → Bool} {W M : Nat → Bool} {c : Nat} : rc_k N W M c = true ↔ rc_l N W M c := by
  unfold rc_k
  exact @decide_eq_true_iff _ (Classical.propDecidable _)
theorem rc_kf {N : Nat → Nat → Bool} {W M : Nat → Bool} {c : Nat} : rc_k N W M c = false ↔ ¬ rc_l N W M c := by
  rw [← rc_kt, Bool.not_eq_true]
/-- how many groups, those that touch the rim not counted -/
noncomputable def gr_n (w : Nat) (r : Bool) (W M : Nat → Bool) : Nat := fb_ct (rc_k (nb w r) W M) 64
/-- the cells whose group begins at b or behind it -/
def gr_L (N : Nat → Nat → Bool) (W : Nat → Bool) (b j : Nat) : Prop := W j = true ∧ ∀ i, rc N W j i → b ≤ i
section GR
variable {w h : Nat} {r : Bool} {W M : Nat → Bool}
theorem gr_sy : ∀ x y, nb w r x y = true → nb w r y x = true := fun _ _ => nb_s
/-- no first cell between b and the lowest that is left -/
theorem gr_go {b l : Nat} (hb : b ≤ l) (hl : l ≤ 64) (hlow : ∀ j, j < l → ¬ gr_L (nb w r) W b j) : fb_ct (rc_k (nb w r) W M) l = fb_ct (rc_k (nb w r) W M) b := by
  obtain ⟨n, rfl⟩ : ∃ n, l = b + n := ⟨l - b, by omega⟩
  rw [fb_ct_split]
  have : fb_ct (fun k => rc_k (nb w r) W M (b + k)) n = 0 := by
    rw [fb_ct_zero]
    intro k hk
    rw [rc_kf]
    rintro ⟨h1, h2, -⟩
    exact hlow (b + k) (by omega) ⟨h1, fun i hi => by have := h2 i hi; omega⟩
  rw [this, Nat.add_zero]
theorem gr_lead {b l : Nat} (hl : gr_L (nb w r) W b l) (hlow : ∀ j, j < l → ¬ gr_L (nb w r) W b j) : ∀ j, rc (nb w r) W l j → l ≤ j := by
  intro j hj
  refine Classical.byContradiction fun hn => hlow j (by omega) ⟨rc_w hl.1 hj, fun i hi => hl.2 i (rc_t hj hi)⟩
/-- what is left behind the group of the lowest -/
theorem gr_next {b l : Nat} (hb : b ≤ l) (hl : gr_L (nb w r) W b l) (hlow : ∀ j, j < l → ¬ gr_L (nb w r) W b j) (j : Nat) : gr_L (nb w r) W (l + 1) j ↔ (gr_L (nb w r) W b j ∧ ¬ rc (nb w r) W l j) := by
  constructor
  · rintro ⟨h1, h2⟩
    refine ⟨⟨h1, fun i hi => by have := h2 i hi; omega⟩, fun h3 => ?_⟩
    have := h2 l (rc_s gr_sy hl.1 h3)
    omega
  · rintro ⟨⟨h1, h2⟩, h3⟩
    refine ⟨h1, fun i hi => ?_⟩
    have h4 := h2 i hi
    refine Classical.byContradiction fun hn => ?_
    by_cases h5 : i = l
    · subst h5; exact h3 (rc_s gr_sy h1 hi)
    · exact hlow i (by omega) ⟨rc_w h1 hi, fun k hk => h2 k (rc_t hi hk)⟩
end GR
/-! ===== the class: by shifts ===== -/
theorem ct_lc : ∀ i : Fin 64, ct ((-9187201950435737472 : Int64) ^^^ (-1 : Int64)) i.val = decide (i.val % 8 < 7) := by decide +kernel
theorem ct_nc : ∀ i : Fin 64, ct (-72340172838076674 : Int64) i.val = decide (0 < i.val % 8) := by decide +kernel
theorem ct_co : ∀ i : Fin 64, ct (72340172838076673 : Int64) i.val = decide (i.val % 8 = 0) := by decide +kernel
section CBES
variable {w h : Nat} {r : Bool} {S : Nat → Bool} {z : tq_S} {Q : tq_O → tq_S → Prop}
theorem sq_beside1 {c : Int64} (hd : jd w h r S) (hj : jc w h r S z) (k : ∀ v, (∀ b, ct v b = (decide (b < 64) && ((decide (8 ≤ b) && ct c (b - 8)) || ct c (8 + b) || (decide (1 ≤ b) && (ct c (b - 1) && decide ((b - 1) % 8 < 7))) || (ct c (1 + b) && decide (0 < (1 + b) % 8)) || (r && (decide (w - 1 ≤ b) && (ct c (b - (w - 1)) && decide ((b - (w - 1)) % 8 = 0)))) || (r && (ct c (w - 1 + b) && decide (b % 8 = 0)))))) → Q (.inl (some (.long v))) z) : wm_X1_beside c z Q := by
  have hw8 := hd.2.1
  have hw1 := hd.1
  unfold wm_X1_beside
  intro v1 e1
  have b1 : ∀ b, ct v1 b = (decide (b < 64) && ((decide (8 ≤ b) && ct c (b - 8)) || ct c (8 + b) || (decide (1 ≤ b) && (ct c (b - 1) && decide ((b - 1) % 8 < 7))) || (ct c (1 + b) && decide (0 < (1 + b) % 8)))) := by
    intro b
    rw [e1, i_8, i_1, ct_or, ct_or, ct_or, ct_shl _ _ (by omega), ct_shr _ _ (by omega), ct_shl _ _ (by omega), ct_shr _ _ (by omega), ct_and, ct_and]
    by_cases hb : b < 64
    · rw [decide_eq_true hb]
      simp only [Bool.true_and]
      by_cases h1 : 1 ≤ b
      · rw [ct_lc ⟨b - 1, by omega⟩]
        by_cases h2 : 1 + b < 64
        · rw [ct_nc ⟨1 + b, h2⟩]
        · rw [ct_big (show 64 ≤ 1 + b by omega)]; simp
      · rw [decide_eq_false h1]
        have h2 : 1 + b < 64 := by omega
        rw [ct_nc ⟨1 + b, h2⟩]; simp
    · rw [decide_eq_false hb]
      simp only [Bool.false_and, Bool.false_or]
      rw [ct_big (show 64 ≤ 8 + b by omega), ct_big (show 64 ≤ 1 + b by omega)]; rfl
  rw [hj.2.2.1]
  refine ⟨fun h1 => k v1 (fun b => ?_), fun h1 v2 e2 v3 e3 => k v3 (fun b => ?_)⟩
  · rw [bi_0] at h1
    rw [b1, h1]; simp
  · rw [bi_n] at h1
    rw [hj.1, i_1, pk_sub hw1] at e2 e3
    rw [e3, ct_or, e2, ct_or, b1, ct_shl _ _ (by omega), ct_and, ct_and, ct_shr _ _ (by omega), h1]
    by_cases hb : b < 64
    · rw [decide_eq_true hb]
      simp only [Bool.true_and]
      rw [ct_co ⟨b, hb⟩]
      by_cases h2 : w - 1 ≤ b
      · rw [ct_co ⟨b - (w - 1), by omega⟩]
      · rw [decide_eq_false h2]; simp
    · rw [decide_eq_false hb, ct_big (show 64 ≤ w - 1 + b by omega)]; simp
/-- beside some cells of the rectangle, within the rectangle: the neighbours -/
theorem sq_beside {c : Int64} (hd : jd w h r S) (hj : jc w h r S z) (hc : cv_re w h (ct c)) (k : ∀ v, (∀ b, b < 64 → b % 8 < w → (ct v b = true ↔ ∃ a, ct c a = true ∧ nb w r a b = true)) → Q (.inl (some (.long v))) z) : wm_X1_beside c z Q := by
  have hw8 := hd.2.1
  have hw1 := hd.1
  refine sq_beside1 hd hj (fun v hv => k v (fun b hb hbw => ?_))
  rw [hv, decide_eq_true hb, Bool.true_and]
  constructor
  · intro h1
    simp only [Bool.or_eq_true, Bool.and_eq_true, decide_eq_true_eq] at h1
    unfold nb
    simp only [Bool.or_eq_true, Bool.and_eq_true, decide_eq_true_eq]
    rcases h1 with ((((h1 | h1) | h1) | h1) | h1) | h1
    · exact ⟨b - 8, h1.2, Or.inl (Or.inl (Or.inl (Or.inl (Or.inl (by omega)))))⟩
    · exact ⟨8 + b, h1, Or.inl (Or.inl (Or.inl (Or.inl (Or.inr (by omega)))))⟩
    · have := hc _ h1.2.1
      exact ⟨b - 1, h1.2.1, Or.inl (Or.inl (Or.inl (Or.inr ⟨by omega, by omega⟩)))⟩
    · have := hc _ h1.1
      exact ⟨1 + b, h1.1, Or.inl (Or.inl (Or.inr ⟨by omega, by omega⟩))⟩
    · exact ⟨b - (w - 1), h1.2.2.1, Or.inl (Or.inr ⟨⟨h1.1, h1.2.2.2⟩, by omega⟩)⟩
    · exact ⟨w - 1 + b, h1.2.1, Or.inr ⟨⟨h1.1, h1.2.2⟩, by omega⟩⟩
  · rintro ⟨a, ha, h1⟩
    have ha2 := hc a ha
    unfold nb at h1
    simp only [Bool.or_eq_true, Bool.and_eq_true, decide_eq_true_eq] at h1 ⊢
    rcases h1 with ((((h1 | h1) | h1) | h1) | h1) | h1
    · have : b - 8 = a := by omega
      exact Or.inl (Or.inl (Or.inl (Or.inl (Or.inl ⟨by omega, by rw [this]; exact ha⟩))))
    · have : 8 + b = a := by omega
      exact Or.inl (Or.inl (Or.inl (Or.inl (Or.inr (by rw [this]; exact ha)))))
    · have : b - 1 = a := by omega
      exact Or.inl (Or.inl (Or.inl (Or.inr ⟨by omega, by rw [this]; exact ha, by omega⟩)))
    · have : 1 + b = a := by omega
      exact Or.inl (Or.inl (Or.inr ⟨by rw [this]; exact ha, by omega⟩))
    · have : b - (w - 1) = a := by omega
      exact Or.inl (Or.inr ⟨h1.1.1, by omega, by rw [this]; exact ha, by omega⟩)
    · have : w - 1 + b = a := by omega
      exact Or.inr ⟨h1.1.1, by rw [this]; exact ha, h1.1.2⟩
theorem ct_mono {a b : Int64} (h1 : ∀ j, ct a j = true → ct b j = true) (h2 : ¬ a = b) : fb_ct (ct a) 64 + 1 ≤ fb_ct (ct b) 64 := by
  have h3 : fb_ct (ct a) 64 ≤ fb_ct (ct b) 64 := fb_ct_sub (fun k _ => h1 k)
  rcases Nat.lt_or_ge (fb_ct (ct a) 64) (fb_ct (ct b) 64) with h4 | h4
  · exact h4
  · exfalso
    apply h2
    -- what is in b and not in a has no member
    have h5 : fb_ct (fun k => ct a k || (ct b k && !ct a k)) 64 = fb_ct (ct a) 64 + fb_ct (fun k => ct b k && !ct a k) 64 := fb_ct_or (fun k _ h => by
      simp only [Bool.and_eq_true, Bool.not_eq_true'] at h
      rw [h.1] at h; cases h.2.2)
    have h6 : fb_ct (fun k => ct a k || (ct b k && !ct a k)) 64 = fb_ct (ct b) 64 := fb_ct_cong (fun k _ => by
      cases ha : ct a k
      · simp
      · rw [h1 k ha]; rfl)
    have h7 : fb_ct (fun k => ct b k && !ct a k) 64 = 0 := by omega
    rw [fb_ct_zero] at h7
    refine ct_ext (fun k hk => ?_)
    have h8 := h7 k hk
    cases ha : ct a k
    · rw [ha] at h8; simp at h8; exact h8.symm
    · exact (h1 k ha).symm
theorem sq_reach {s t : Int64} {l : Nat} (hd : jd w h r S) (hj : jc w h r S z) (ht : cv_re w h (ct t)) (hl : ct t l = true) (hs : ∀ j, ct s j = decide (j = l)) (k : ∀ v, (∀ j, ct v j = true ↔ rc (nb w r) (ct t) l j) → Q (.inl (some (.long v))) z) : wm_X1_reach s t z Q := by
  unfold wm_X1_reach wc_X1_reach_6
  refine lp_inv (fun m s => ∃ v, s = (v, nI m, z) ∧ m ≤ fb_ct (ct v) 64 ∧ ct v l = true ∧ ∀ j, ct v j = true → rc (nb w r) (ct t) l j) 64 ?_ ⟨s, rfl, Nat.zero_le _, by rw [hs]; simp, fun j hj => by
    rw [hs] at hj
    rw [of_decide_eq_true hj]; exact rc_r⟩
  rintro m x hm ⟨v, rfl, h1, h2, h3⟩ B hB
  simp only
  unfold wb_X1_reach_6
  have hv : cv_re w h (ct v) := fun j hj => ht j (rc_w hl (h3 j hj))
  have fin : (∀ b, ct t b = true → (∃ a, ct v a = true ∧ nb w r a b = true) → ct v b = true) → Q (.inl (some (.long v))) z := by
    intro hcl
    refine k v (fun j => ⟨h3 j, fun hj => ?_⟩)
    exact hj (ct v) h2 (fun a b ha hab hb => hcl b hb ⟨a, ha, hab⟩)
  rw [i_64]
  refine ⟨fun h4 => ?_, fun h4 => ?_⟩
  · rw [i_le (by omega) (by omega)] at h4
    have h5 : fb_ct (ct v) 64 = 64 := by have := fb_ct_le (ct v) 64; omega
    rw [fb_ct_all] at h5
    exact fin (fun b hb _ => h5 b (ht b hb).1)
  · rw [i_le (by omega) (by omega)] at h4
    refine sq_beside hd hj hv (fun u hu => ⟨_, rfl, fun v2 e2 => ?_⟩)
    have g : ∀ j, ct v2 j = (ct v j || (ct u j && ct t j)) := fun j => by rw [e2, ct_or, ct_and]
    refine ⟨fun h5 v3 e3 => ?_, fun h5 => fin (fun b hb hab => ?_)⟩
    · rw [i_1, i_add] at e3
      subst e3
      refine hB (by omega) _ ⟨v2, rfl, ?_, ?_, ?_⟩
      · have := ct_mono (a := v) (b := v2) (fun j hj => by rw [g, hj]; rfl) (fun e => h5 e.symm)
        omega
      · rw [g, h2]; rfl
      · intro j hj
        rw [g] at hj
        simp only [Bool.or_eq_true, Bool.and_eq_true] at hj
        rcases hj with hj | hj
        · exact h3 j hj
        · have hb := ht j hj.2
          obtain ⟨a, ha, hab⟩ := (hu j hb.1 hb.2.1).mp hj.1
          exact rc_n (h3 a ha) hab hj.2
    · have := g b
      rw [h5, hb, (hu b (ht b hb).1 (ht b hb).2.1).mpr hab] at this
      rw [this]; simp
theorem sq_groups {t m : Int64} (hd : jd w h r S) (hj : jc w h r S z) (ht : cv_re w h (ct t)) (k : Q (.inl (some (.int (nI (gr_n w r (ct t) (ct m)))))) z) : wm_X1_countGroups t m z Q := by
  unfold wm_X1_countGroups wc_X1_countGroups_9
  have le64 : ∀ b, b ≤ 64 → fb_ct (rc_k (nb w r) (ct t) (ct m)) b ≤ 64 := fun b hb => Nat.le_trans (fb_ct_le _ _) hb
  refine lp_inv (fun i s => ∃ L b, s = (nI (fb_ct (rc_k (nb w r) (ct t) (ct m)) b), L, nI i, z) ∧ i ≤ b ∧ b ≤ 64 ∧ ∀ j, ct L j = true ↔ gr_L (nb w r) (ct t) b j) 64 ?_ ⟨t, 0, rfl, Nat.le_refl _, by omega, fun j => ⟨fun hj => ⟨hj, fun i _ => Nat.zero_le _⟩, fun hj => hj.1⟩⟩
  rintro i s hi ⟨L, b, rfl, h1, h2, h3⟩ B hB
  simp only
  unfold wb_X1_countGroups_9
  have fin : (∀ j, ct L j = false) → Q (.inl (some (.int (nI (fb_ct (rc_k (nb w r) (ct t) (ct m)) b))))) z := by
    intro hL
    have := gr_go (w := w) (r := r) (W := ct t) (M := ct m) h2 (Nat.le_refl 64) (fun j _ hj => by
      have := (h3 j).mpr hj
      rw [hL] at this; cases this)
    rw [← this]; exact k
  rw [i_64]
  refine ⟨fun h4 => ?_, fun h4 => ⟨fun h5 => ?_, fun h5 => ?_⟩⟩
  · rw [i_le (by omega) (by omega)] at h4
    refine fin (fun j => ?_)
    cases hc : ct L j
    · rfl
    · have a1 := (h3 j).mp hc
      have a2 := a1.2 j rc_r
      have a3 := (ht j a1.1).1
      omega
  · refine fin (fun j => ?_)
    rw [h5, ct_0]
  · rw [i_le (by omega) (by omega)] at h4
    rw [ct_ne] at h5
    obtain ⟨l, hl64, hl, hlo⟩ := fb_first (p := fun i => ct L i = true) h5
    have hl' := (h3 l).mp hl
    have hlow : ∀ j, j < l → ¬ gr_L (nb w r) (ct t) b j := fun j hj hg => hlo j hj ((h3 j).mpr hg)
    have hbl : b ≤ l := hl'.2 l rc_r
    have hs : ∀ j, ct (L &&& (-L)) j = decide (j = l) := by
      intro j
      rw [ct_low]
      by_cases e : j = l
      · subst e
        rw [hl, Bool.true_and, decide_eq_true (rfl : j = j), decide_eq_true]
        intro q hq
        have := hlo q hq
        rwa [Bool.not_eq_true] at this
      · rw [decide_eq_false e]
        rcases Nat.lt_or_ge j l with e2 | e2
        · have := hlo j e2
          rw [Bool.not_eq_true] at this
          rw [this]; rfl
        · have : ¬ ∀ q, q < j → ct L q = false := fun hq => by
            have := hq l (by omega)
            rw [hl] at this; cases this
          rw [decide_eq_false this, Bool.and_false]
    refine sq_reach hd hj ht hl'.1 hs (fun v hv => ⟨_, rfl, fun L2 e2 => ?_⟩)
    have hL2 : ∀ j, ct L2 j = true ↔ gr_L (nb w r) (ct t) (l + 1) j := by
      intro j
      rw [e2, ct_and, ct_not, gr_next hbl hl' hlow, ← h3, ← hv]
      simp only [Bool.and_eq_true, decide_eq_true_eq, Bool.not_eq_true', Bool.not_eq_true]
      refine ⟨fun q => ⟨q.1, q.2.2⟩, fun q => ⟨q.1, ?_, q.2⟩⟩
      exact (ht j ((h3 j).mp q.1).1).1
    have hct : fb_ct (rc_k (nb w r) (ct t) (ct m)) l = fb_ct (rc_k (nb w r) (ct t) (ct m)) b := gr_go hbl (by omega) hlow
    have step : ∀ n, n = fb_ct (rc_k (nb w r) (ct t) (ct m)) (l + 1) → wc_X1_countGroups_59 (fun b5 b6 b8 z => B (b5, b6, b8, z)) Q t m (nI n) L2 (nI i) z := by
      intro n hn
      unfold wc_X1_countGroups_59
      intro v1 e1
      rw [i_1, i_add] at e1
      subst e1
      exact hB (by omega) _ ⟨L2, l + 1, by rw [hn], by omega, by omega, hL2⟩
    have lead := gr_lead hl' hlow
    refine ⟨fun h6 => step _ ?_, fun h6 v1 e1 => ?_⟩
    · rw [fb_ct_succ, hct]
      have : rc_k (nb w r) (ct t) (ct m) l = false := by
        rw [rc_kf]
        rintro ⟨-, -, q⟩
        apply h6
        rw [ct_n0]
        intro j _
        rw [ct_and]
        cases hc : ct v j
        · rfl
        · rw [q j ((hv j).mp hc)]; rfl
      rw [this]; simp
    · rw [i_1, i_add] at e1
      subst e1
      refine step _ ?_
      rw [fb_ct_succ, hct]
      have : rc_k (nb w r) (ct t) (ct m) l = true := by
        rw [rc_kt]
        refine ⟨hl'.1, lead, fun j hj => ?_⟩
        rw [ct_n0] at h6
        have h7 := h6 j (ht j (rc_w hl'.1 hj)).1
        rw [ct_and, (hv j).mpr hj] at h7
        exact h7
      rw [this]; simp
/-- the cells at a rim -/
def rim (w h : Nat) (r : Bool) : Nat → Bool := fun j => decide (j / 8 = 0) || decide (j / 8 = h - 1) || (!r && (decide (j % 8 = 0) || decide (j % 8 = w - 1)))
theorem gr_nc {w : Nat} {r : Bool} {W M M' : Nat → Bool} (h : ∀ j, W j = true → M j = M' j) : gr_n w r W M = gr_n w r W M' := by
  unfold gr_n
  refine fb_ct_cong (fun c _ => ?_)
  have : rc_l (nb w r) W M c ↔ rc_l (nb w r) W M' c := by
    unfold rc_l
    refine and_congr_right (fun h1 => and_congr_right (fun _ => ?_))
    exact ⟨fun q j hj => by rw [← h j (rc_w h1 hj)]; exact q j hj, fun q j hj => by rw [h j (rc_w h1 hj)]; exact q j hj⟩
  cases hc : rc_k (nb w r) W M' c
  · rw [rc_kf] at hc ⊢
    exact fun q => hc (this.mp q)
  · rw [rc_kt] at hc ⊢
    exact this.mpr hc
theorem ct_255 (j : Nat) : ct (255 : Int64) j = decide (j < 8) := by
  show (255#64).getLsbD j = _
  by_cases hj : j < 64
  · have : ∀ i : Fin 64, (255#64).getLsbD i.val = decide (i.val < 8) := by decide +kernel
    exact this ⟨j, hj⟩
  · rw [BitVec.getLsbD_of_ge _ _ (by omega), decide_eq_false (by omega)]
def mi (w h : Nat) (S : Nat → Bool) : Nat → Bool := fun j => re_S w h j && !S j
theorem sc_holes (hd : jd w h r S) (hj : jc w h r S z) (k : Q (.inl (some (.int (nI (gr_n w r (mi w h S) (rim w h r)))))) z) : wm_X1_countHoles z Q := by
  have hw8 := hd.2.1
  have hw1 := hd.1
  have hh8 := hd.2.2.2.1
  have hh1 := hd.2.2.1
  have main : ∀ m : Int64, (∀ j, j < 64 → j % 8 < w → j / 8 < h → ct m j = rim w h r j) → wc_X1_countHoles_42 Q m z := by
    intro m hm
    unfold wc_X1_countHoles_42
    rw [hj.1, hj.2.1]
    refine sq_rect hw8 hh8 (fun c hc => ⟨_, rfl, ?_⟩)
    have e : ct (c &&& (tq_fl z 67 ^^^ (-1 : Int64))) = mi w h S := by
      funext j
      rw [ct_and, ct_not, hc, hj.2.2.2]
      unfold mi
      cases hr : re_S w h j
      · rfl
      · rw [decide_eq_true (re_re hh8 j hr).1]; rfl
    have hmi : cv_re w h (mi w h S) := fun j hj => by
      unfold mi at hj
      simp only [Bool.and_eq_true] at hj
      exact re_re hh8 j hj.1
    refine sq_groups hd hj (by rw [e]; exact hmi) ⟨_, rfl, ?_⟩
    rw [e, gr_nc (M' := rim w h r) (fun j hj => hm j (hmi j hj).1 (hmi j hj).2.1 (hmi j hj).2.2)]
    exact k
  unfold wm_X1_countHoles
  intro v1 e1
  have b1 : ∀ j, j < 64 → ct v1 j = (decide (j / 8 = 0) || decide (j / 8 = h - 1)) := by
    intro j hl
    rw [e1, hj.2.1, i_1, pk_sub hh1, i_8, pk_mul, ct_or, ct_shl _ _ (by omega), ct_255, ct_255, decide_eq_true hl, Bool.true_and]
    have q1 : decide (j < 8) = decide (j / 8 = 0) := decide_eq_decide.mpr (by omega)
    have q2 : (decide (8 * (h - 1) ≤ j) && decide (j - 8 * (h - 1) < 8)) = decide (j / 8 = h - 1) := by
      rw [← Bool.decide_and]
      exact decide_eq_decide.mpr (by omega)
    rw [q1, q2]
  rw [hj.2.2.1]
  refine ⟨fun h1 => main v1 (fun j hl _ _ => ?_), fun h1 v2 e2 => main v2 (fun j hl hjw _ => ?_)⟩
  · rw [bi_n] at h1
    rw [b1 j hl]
    unfold rim
    rw [h1]; simp
  · rw [bi_0] at h1
    rw [e2, hj.1, i_1, pk_sub hw1, ct_or, ct_or, b1 j hl, ct_shl _ _ (by omega), ct_co ⟨j, hl⟩, decide_eq_true hl, Bool.true_and]
    unfold rim
    rw [h1]
    have q : (decide (w - 1 ≤ j) && ct (72340172838076673 : Int64) (j - (w - 1))) = decide (j % 8 = w - 1) := by
      by_cases a : w - 1 ≤ j
      · rw [ct_co ⟨j - (w - 1), by omega⟩, decide_eq_true a, Bool.true_and]
        show decide ((j - (w - 1)) % 8 = 0) = _
        exact decide_eq_decide.mpr (by omega)
      · rw [decide_eq_false a, Bool.false_and, decide_eq_false (by omega)]
    rw [q]; rfl
theorem sc_plain (hd : jd w h r S) (hj : jc w h r S z) (k : Q (.inl (some (.int (bi (!r && decide (gr_n w r (mi w h S) (rim w h r) = 0)))))) z) : wm_X1_isPlain z Q := by
  unfold wm_X1_isPlain
  rw [hj.2.2.1]
  refine ⟨fun h1 => ?_, fun h1 => ?_⟩
  · rw [bi_n] at h1
    rw [h1] at k; exact k
  · rw [bi_0] at h1
    rw [h1] at k
    refine sc_holes hd hj ⟨_, rfl, ?_⟩
    have : gr_n w r (mi w h S) (rim w h r) ≤ 64 := fb_ct_le _ _
    rw [h1] at this ⊢
    refine ⟨fun h2 => ?_, fun h2 => ?_⟩
    · rw [i_0, i_eq (by omega) (by omega)] at h2
      rw [decide_eq_false h2] at k; exact k
    · rw [i_0, i_eq (by omega) (by omega)] at h2
      rw [decide_eq_true h2] at k; exact k
end CBES
