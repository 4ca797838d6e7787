section BND
variable {z : tq_S} {Q : tq_O → tq_S → Prop} {n K : Nat} {C M Z : Nat → Nat} {A : Nat → Int64}
/-- how many pieces of a kind the open cells have room for -/
def rmF (Z : Nat → Nat) (n c k : Nat) : Nat := (n - pop c) / Z k
/-- no more pieces left than the open cells have room for -/
def bndl (K : Nat) (Z : Nat → Nat) (n c : Nat) (l : Nat → Nat) : Nat → Nat := fun k => if k < K then min (l k) (rmF Z n c k) else l k
theorem bndl_15 {c : Nat} {l : Nat → Nat} (h : l15 l) : l15 (bndl K Z n c l) := fun k hk => by
  have := h k hk
  unfold bndl
  split
  · omega
  · exact this
theorem pop_ct {e : Nat} : fb_ct (ct (lN e &&& (16777215 : Int64))) 64 = pop (e % 2 ^ 24) := by
  unfold pop
  rw [show (64 : Nat) = 24 + 40 from rfl, fb_ct_split]
  have e2 : fb_ct (fun k => ct (lN e &&& (16777215 : Int64)) (24 + k)) 40 = 0 := fb_ct_zero.mpr (fun k hk => by
    rw [ct_and, cells_k ⟨24 + k, by omega⟩, decide_eq_false (show ¬ 24 + k < 24 by omega), Bool.and_false])
  rw [e2, Nat.add_zero]
  refine fb_ct_cong (fun i hi => ?_)
  rw [ct_and, cells_k ⟨i, by omega⟩, decide_eq_true (show i < 24 from hi), Bool.and_true, ct_lN, decide_eq_true (by omega), Bool.true_and, tb_mod hi]
theorem i_at {k : Nat} : (32 : Int32) + (4 : Int32) * nI k = nI (32 + 4 * k) := by rw [i_4, pk_mul, i_32, i_add]
theorem l_and15 (m : Nat) : lN m &&& (15 : Int64) = lN (m % 16) := by rw [show (15 : Int64) = lN (2 ^ 4 - 1) from rfl, fb_maskL]
theorem sq_bounded {c g mo : Nat} {l : Nat → Nat} (hk : kdc K C M Z A z) (h1 : tq_fi z 1804 = nI n) (hn : n ≤ 24) (hc : c < 2 ^ n) (hg : g < 2 ^ 8) (hl : l15 l) (hm : mo < 8) (kk : Q (.inl (some (.long (lN (encN c g (bndl K Z n c l) mo))))) z) : wm_X4_bounded (lN (encN c g l mo)) z Q := by
  have hK := hk.2.1
  have c24 : c < 2 ^ 24 := Nat.lt_of_lt_of_le hc (Nat.pow_le_pow_right (by decide) hn)
  have pn := pop_le hc hn
  unfold wm_X4_bounded
  refine sp_bc ⟨_, rfl, ?_⟩
  dsimp only
  rw [pop_ct, encN_c c24, h1, pk_sub pn]
  intro v3 e3
  subst e3
  unfold wc_X4_bounded_20
  refine lp_inv (fun k st => st = (lN (encN c g (fun j => if j < k then min (l j) (rmF Z n c j) else l j) mo), nI k, z)) K ?_ (by rw [encN_e (l' := fun j => if j < 0 then min (l j) (rmF Z n c j) else l j) (fun j _ => by rw [if_neg (Nat.not_lt_zero j)])]; rfl)
  rintro k st hkK rfl B hB
  simp only
  unfold wb_X4_bounded_20
  rw [hk.1, i_le (by omega) (by omega)]
  refine ⟨fun q => ?_, fun q v1 e1 v2 e2 => ?_⟩
  · have : k = K := by omega
    subst this
    exact kk
  have kK : k < K := by omega
  obtain ⟨_, _, ⟨z1, z3, z6⟩, _⟩ := hk.2.2 k kK
  rw [i_at] at e1
  subst e1
  have e59 := encN_lt c24 hg hl hm
  rw [l_shrN (by omega) (by omega), l_and15, encN_l c24 hg hl (by omega)] at e2
  subst e2
  refine ⟨i_in (by omega) (by omega), ?_⟩
  rw [i_cl (by omega), z1]
  refine sp_max _ ?_
  have mx : (if nI (Z k) < (1 : Int32) then (1 : Int32) else nI (Z k)) = nI (Z k) := by
    refine if_neg ?_
    rw [i_1, i_lt (by omega) (by omega)]; omega
  rw [mx]
  refine ⟨_, rfl, ?_, fun v5 e5 => ?_⟩
  · rw [show (0 : Int32) = nI 0 from rfl, i_eq (by omega) (by omega)]; omega
  have dl : rmF Z n c k ≤ 24 := Nat.le_trans (Nat.div_le_self _ _) (by omega)
  rw [pk_div (by omega) (by omega) (by omega), show (n - pop c) / Z k = rmF Z n c k from rfl, i_to (by omega)] at e5
  subst e5
  have lk := hl k (by omega)
  have fin : ∀ t, t = l k - rmF Z n c k → (∀ v, v = lN (encN c g (fun j => if j < k then min (l j) (rmF Z n c j) else l j) mo) - (lN t) <<< ((Int32.toInt64 (nI (32 + 4 * k))) &&& 63) → ∀ v2 : Int32, v2 = nI k + 1 → B (v, v2, z)) := by
    intro t ht v ev v2 ev2
    rw [i_1, i_add] at ev2
    subst ev2
    obtain ⟨s1, s2⟩ := encN_sub (c := c) (g := g) (mo := mo) (k := k) (t := t) (l := fun j => if j < k then min (l j) (rmF Z n c j) else l j) (by omega) (by rw [if_neg (Nat.lt_irrefl k)]; omega)
    rw [l_shlN (by omega), l_sub s2, s1] at ev
    subst ev
    refine hB (by omega) _ ?_
    congr 2
    refine encN_e fun j hj => ?_
    unfold lsub
    dsimp only
    by_cases u : j = k
    · rw [if_pos u, u, if_neg (Nat.lt_irrefl k), if_pos (Nat.lt_succ_self k)]; omega
    · rw [if_neg u]
      by_cases v3 : j < k
      · rw [if_pos v3, if_pos (by omega)]
      · rw [if_neg v3, if_neg (by omega)]
  unfold wm_J9_max_f86c9
  by_cases u : l k ≤ rmF Z n c k
  · have e0 : l k - rmF Z n c k = 0 := by omega
    have neg : lN (l k) - lN (rmF Z n c k) < 0 ∨ lN (l k) - lN (rmF Z n c k) = 0 := by
      by_cases u2 : l k = rmF Z n c k
      · right; rw [u2, l_sub (Nat.le_refl _), Nat.sub_self]; rfl
      · left
        have ta : (lN (l k)).toInt = (l k : Int) := pk_lT (by omega)
        have tb : (lN (rmF Z n c k)).toInt = ((rmF Z n c k : Nat) : Int) := pk_lT (by omega)
        rw [Int64.lt_iff_toInt_lt, fb_subL (by rw [ta, tb]; omega) (by rw [ta, tb]; omega), ta, tb]
        show _ < (0 : Int)
        omega
    refine ⟨fun _ => ⟨_, rfl, fin 0 e0.symm⟩, fun h => ⟨_, rfl, ?_⟩⟩
    rcases neg with ng | ng
    · exact absurd ng h
    · rw [ng]; exact fin 0 e0.symm
  · rw [l_sub (by omega), show (0 : Int64) = lN 0 from rfl, pk_lLT (by omega) (by omega)]
    exact ⟨fun h => absurd h (Nat.not_lt_zero _), fun _ => ⟨_, rfl, fin _ rfl⟩⟩
theorem lfs_low {l : Nat → Nat} {k : Nat} (hk : k ≤ 6) (h : l15 l) (h0 : ∀ j, k ≤ j → j < 6 → l j = 0) : encN 0 0 l 0 < 2 ^ (32 + 4 * k) := by
  have a0 := h 0 (by omega)
  have a1 := h 1 (by omega)
  have a2 := h 2 (by omega)
  have a3 := h 3 (by omega)
  have a4 := h 4 (by omega)
  have a5 := h 5 (by omega)
  unfold encN lfs
  rcases (by omega : k = 0 ∨ k = 1 ∨ k = 2 ∨ k = 3 ∨ k = 4 ∨ k = 5 ∨ k = 6) with rfl | rfl | rfl | rfl | rfl | rfl | rfl
  · rw [h0 0 (by omega) (by omega), h0 1 (by omega) (by omega), h0 2 (by omega) (by omega), h0 3 (by omega) (by omega), h0 4 (by omega) (by omega), h0 5 (by omega) (by omega)]; decide
  · rw [show 2 ^ (32 + 4 * 1) = 68719476736 from rfl, h0 1 (by omega) (by omega), h0 2 (by omega) (by omega), h0 3 (by omega) (by omega), h0 4 (by omega) (by omega), h0 5 (by omega) (by omega)]; omega
  · rw [show 2 ^ (32 + 4 * 2) = 1099511627776 from rfl, h0 2 (by omega) (by omega), h0 3 (by omega) (by omega), h0 4 (by omega) (by omega), h0 5 (by omega) (by omega)]; omega
  · rw [show 2 ^ (32 + 4 * 3) = 17592186044416 from rfl, h0 3 (by omega) (by omega), h0 4 (by omega) (by omega), h0 5 (by omega) (by omega)]; omega
  · rw [show 2 ^ (32 + 4 * 4) = 281474976710656 from rfl, h0 4 (by omega) (by omega), h0 5 (by omega) (by omega)]; omega
  · rw [show 2 ^ (32 + 4 * 5) = 4503599627370496 from rfl, h0 5 (by omega) (by omega)]; omega
  · rw [show 2 ^ (32 + 4 * 6) = 72057594037927936 from rfl]; omega
def mst (K : Nat) (M : Nat → Nat) : Nat → Nat := fun j => if j < K then M j else 0
theorem encN_add {k t : Nat} {l : Nat → Nat} (hk : k < 6) (h0 : l k = 0) : encN 0 0 (fun j => if j = k then t else l j) 0 = 2 ^ (32 + 4 * k) * t + encN 0 0 l 0 := by
  obtain ⟨s1, s2⟩ := encN_sub (c := 0) (g := 0) (mo := 0) (k := k) (t := t) (l := fun j => if j = k then t else l j) hk (by rw [if_pos rfl]; exact Nat.le_refl _)
  have e : encN 0 0 (lsub (fun j => if j = k then t else l j) k t) 0 = encN 0 0 l 0 := encN_e fun j _ => by
    unfold lsub
    dsimp only
    by_cases u : j = k
    · rw [if_pos u, if_pos u, u, h0]; omega
    · rw [if_neg u, if_neg u]
  omega
theorem sq_beginning (hk : kdc K C M Z A z) (h1 : tq_fi z 1804 = nI n) (hn : n ≤ 24) (kk : Q (.inl (some (.long (lN (encN 0 0 (bndl K Z n 0 (mst K M)) 0))))) z) : wm_X4_beginning z Q := by
  have hK := hk.2.1
  have hM : ∀ j, j < K → M j ≤ 8 := fun j hj => (hk.2.2 j hj).2.1.2
  have m15 : l15 (mst K M) := fun j _ => by
    unfold mst
    by_cases u : j < K
    · rw [if_pos u]; have := hM j u; omega
    · rw [if_neg u]; omega
  unfold wm_X4_beginning wc_X4_beginning_4
  refine lp_inv (fun k st => st = (lN (encN 0 0 (mst k M) 0), nI k, z)) K ?_ (by
    have : encN 0 0 (mst 0 M) 0 = 0 := by
      rw [encN_e (l' := fun _ => 0) (fun j _ => by unfold mst; rw [if_neg (Nat.not_lt_zero j)])]
      decide
    rw [this]; rfl)
  rintro k st hkK rfl B hB
  simp only
  unfold wb_X4_beginning_4
  rw [hk.1, i_le (by omega) (by omega)]
  refine ⟨fun q => ?_, fun q => ⟨i_in (by omega) (by omega), fun v1 e1 v2 e2 => ?_⟩⟩
  · have : k = K := by omega
    subst this
    unfold wc_X4_beginning_41
    refine sq_bounded hk h1 hn (Nat.two_pow_pos n) (by omega) m15 (by omega) ⟨_, rfl, kk⟩
  have kK : k < K := by omega
  obtain ⟨_, ⟨m1, m2⟩, _, _⟩ := hk.2.2 k kK
  have k15 : l15 (mst k M) := fun j _ => by
    unfold mst
    by_cases u : j < k
    · rw [if_pos u]; have := hM j (by omega); omega
    · rw [if_neg u]; omega
  have low := lfs_low (k := k) (by omega) k15 (fun j a _ => by unfold mst; rw [if_neg (by omega)])
  rw [i_at, i_cl (by omega), m1, i_to (by omega), l_shlN (by omega), Int64.or_comm, fb_or_sumL _ low, ← encN_add (l := mst k M) (by omega) (by unfold mst; rw [if_neg (Nat.lt_irrefl k)])] at e1
  rw [i_1, i_add] at e2
  subst e1
  subst e2
  refine hB (by omega) _ ?_
  congr 2
  refine encN_e fun j _ => ?_
  unfold mst
  by_cases u : j = k
  · rw [if_pos u, if_pos (by omega), u]
  · rw [if_neg u]
    by_cases v : j < k
    · rw [if_pos v, if_pos (by omega)]
    · rw [if_neg v, if_neg (by omega)]
/-- one turn of `with` -/
theorem sq_wbody {B : Int64 → Int64 → Int32 → tq_S → Prop} {c g mo t : Nat} {l : Nat → Nat} {y : plc} {a3 : Int64} {a5 : Int32} (hc : c < 2 ^ 24) (hg : g < 2 ^ 8) (hl : l15 l) (hm : mo < 8) (hy : pcb y) (ht : t < 4) (k0 : (c &&& y.2.2.1 ≠ 0 ∨ l y.2.1 = 0) → Q (.inl (some (.long (-1)))) z) (k1 : c &&& y.2.2.1 = 0 → l y.2.1 ≠ 0 → ((¬ a5 = 0 → wm_X4_imageOf (lN (pcE y)) (nI y.2.1) a5 z (tq_wl fun r103 z102 => wc_X4_with_120 B Q a3 a5 (nI y.2.1) (nI (32 + 4 * y.2.1)) (lN (encN (c ||| y.2.2.1) (g &&& y.2.2.2) (lsub l y.2.1 1) mo)) (nI t) r103 z102)) ∧ (a5 = 0 → wc_X4_with_120 B Q a3 a5 (nI y.2.1) (nI (32 + 4 * y.2.1)) (lN (encN (c ||| y.2.2.1) (g &&& y.2.2.2) (lsub l y.2.1 1) mo)) (nI t) a3 z))) : wb_X4_with_32 B Q a3 a5 (nI y.2.1) (nI (32 + 4 * y.2.1)) (lN (encN c g l mo)) (lN (pcE y)) (nI t) z := by
  have hy2 := hy
  obtain ⟨h0, h1, h2, h3⟩ := hy2
  have e59 := encN_lt hc hg hl hm
  have l15y := hl _ h1
  unfold wb_X4_with_32
  rw [i_4, i_le (by omega) (by omega)]
  refine ⟨fun q => absurd q (by omega), fun _ => ?_⟩
  have dis : (((lN (encN c g l mo)) &&& (lN (pcE y))) &&& (16777215 : Int64)) = 0 ↔ c &&& y.2.2.1 = 0 := by
    constructor
    · intro e
      refine Nat.eq_of_testBit_eq fun i => ?_
      rw [Nat.zero_testBit, Nat.testBit_and]
      by_cases q : i < 24
      · have := ct_n0.mp e i (by omega)
        rw [ct_and, ct_and, cells_k ⟨i, by omega⟩, decide_eq_true q, Bool.and_true, ct_lN, ct_lN, decide_eq_true (by omega), Bool.true_and, Bool.true_and, encN_t hc hg, pcE_t hy, if_pos q, if_pos q] at this
        exact this
      · rw [Nat.testBit_lt_two_pow (Nat.lt_of_lt_of_le hc (Nat.pow_le_pow_right (by decide) (by omega))), Bool.false_and]
    · intro e
      refine ct_n0.mpr fun i hi => ?_
      rw [ct_and, ct_and, cells_k ⟨i, hi⟩]
      by_cases q : i < 24
      · have := congrArg (fun x => Nat.testBit x i) e
        rw [Nat.zero_testBit, Nat.testBit_and] at this
        rw [ct_lN, ct_lN, decide_eq_true hi, Bool.true_and, Bool.true_and, encN_t hc hg, pcE_t hy, if_pos q, if_pos q, this, Bool.false_and]
      · rw [decide_eq_false q, Bool.and_false]
  rw [dis, l_shrN (by omega) (by omega), l_and15, encN_l hc hg hl h1, show (0 : Int64) = lN 0 from rfl, fb_lN_inj (by omega) (by omega)]
  refine ⟨fun q => k0 (Or.inl q), fun q => ⟨fun q2 v e => ?_, fun q2 => k0 (Or.inr q2)⟩⟩
  obtain ⟨s1, s2⟩ := encN_sub (c := c ||| y.2.2.1) (g := g &&& y.2.2.2) (mo := mo) (k := y.2.1) (t := 1) (l := l) h1 (by omega)
  rw [enc_put hc hg hl hm hy, show (1 : Int64) = lN 1 from rfl, l_shlN (by omega), l_sub s2, s1] at e
  subst e
  exact k1 q q2
end BND
