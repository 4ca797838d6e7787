section WLP
variable {w h : Nat} {r : Bool} {S : Nat → Bool} {z : tq_S} {Q : tq_O → tq_S → Prop} {K n P : Nat} {C M Z : Nat → Nat} {A : Nat → Int64} {f : Nat → plc} {st : Nat → Nat}
/-- the place, and what the motion makes of it -/
noncomputable def wlp (w h : Nat) (S : Nat → Bool) (P : Nat) (f : Nat → plc) (mo i0 : Nat) : Nat → Nat → Nat → Nat → (Nat → Nat) → Option (Nat × Nat × (Nat → Nat))
  | 0, _, c, g, l => some (c, g, l)
  | t + 1, q, c, g, l => if c &&& (f q).2.2.1 ≠ 0 ∨ l (f q).2.1 = 0 then none else
      match (if mo = 0 then some i0 else imO w h S P f mo q) with
      | none => none
      | some q' => if q' = i0 then some (c ||| (f q).2.2.1, g &&& (f q).2.2.2, lsub l (f q).2.1 1) else wlp w h S P f mo i0 t q' (c ||| (f q).2.2.1) (g &&& (f q).2.2.2) (lsub l (f q).2.1 1)
def dcl (e : Nat) : Nat → Nat := fun k => e / 2 ^ (32 + 4 * k) % 16
theorem dcl_15 (e : Nat) : l15 (dcl e) := fun k _ => Nat.mod_lt _ (by decide)
theorem enc_dec {e : Nat} (he : e < 2 ^ 59) : encN (e % 2 ^ 24) (e / 2 ^ 24 % 2 ^ 8) (dcl e) (e / 2 ^ 56) = e := by
  unfold encN lfs dcl
  rw [show 2 ^ (32 + 4 * 0) = 4294967296 from rfl, show 2 ^ (32 + 4 * 1) = 68719476736 from rfl, show 2 ^ (32 + 4 * 2) = 1099511627776 from rfl, show 2 ^ (32 + 4 * 3) = 17592186044416 from rfl, show 2 ^ (32 + 4 * 4) = 281474976710656 from rfl, show 2 ^ (32 + 4 * 5) = 4503599627370496 from rfl]
  omega
/-- what `with` makes of a state -/
noncomputable def TT (w h : Nat) (S : Nat → Bool) (K : Nat) (Z : Nat → Nat) (P : Nat) (f : Nat → plc) (e i : Nat) : Option Nat :=
  match wlp w h S P f (e / 2 ^ 56) i 4 i (e % 2 ^ 24) (e / 2 ^ 24 % 2 ^ 8) (dcl e) with
  | none => none
  | some x => some (encN x.1 x.2.1 (bndl K Z (fb_ct S 64) x.1 x.2.2) (e / 2 ^ 56))
/-- the states that can be -/
def GG (w h : Nat) (S : Nat → Bool) (e : Nat) : Prop := e < 2 ^ 59 ∧ e % 2 ^ 24 < 2 ^ fb_ct S 64 ∧ (e / 2 ^ 56 = 0 ∨ gok w h S (e / 2 ^ 56) = true)
def pop8 (g : Nat) : Nat := fb_ct (fun i => g.testBit i) 8
/-- the worth of an end -/
def WW (e : Nat) : Nat := if pop8 (e / 2 ^ 24 % 2 ^ 8) = 0 then 1 else 840 / pop8 (e / 2 ^ 24 % 2 ^ 8)
/-- what is known of the places -/
def plg (S : Nat → Bool) (Z : Nat → Nat) (P : Nat) (f : Nat → plc) : Prop := (∀ p, p < P → pcb (f p) ∧ (f p).2.2.1 < 2 ^ fb_ct S 64 ∧ (f p).2.2.1.testBit (f p).1 = true ∧ (∀ j, j < (f p).1 → (f p).2.2.1.testBit j = false) ∧ pop (f p).2.2.1 = Z (f p).2.1 ∧ 3 ≤ pop (f p).2.2.1) ∧ ∀ p p', p < P → p' < P → (f p).2.1 = (f p').2.1 → (f p).2.2.1 = (f p').2.2.1 → p = p'
theorem pcE_i {x y : plc} (hx : pcb x) (hy : pcb y) (e : pcE x = pcE y) : x.2.1 = y.2.1 ∧ x.2.2.1 = y.2.2.1 := by
  obtain ⟨_, a1, a2, a3⟩ := hx
  obtain ⟨_, b1, b2, b3⟩ := hy
  unfold pcE at e
  omega
theorem wlp_g {mo i0 : Nat} (hpl : plg S Z P f) (hn : fb_ct S 64 ≤ 24) : ∀ (t q c g : Nat) (l : Nat → Nat) (x : Nat × Nat × (Nat → Nat)), q < P → c < 2 ^ fb_ct S 64 → g < 2 ^ 8 → l15 l → wlp w h S P f mo i0 t q c g l = some x → x.1 < 2 ^ fb_ct S 64 ∧ x.2.1 < 2 ^ 8 ∧ l15 x.2.2 ∧ pop c ≤ pop x.1 ∧ (1 ≤ t → pop c + 3 ≤ pop x.1)
  | 0, q, c, g, l, x, _, hc, hg, hl, e => by
    have e : some (c, g, l) = some x := e
    rw [← Option.some.inj e]
    exact ⟨hc, hg, hl, Nat.le_refl _, fun u => absurd u (by omega)⟩
  | t + 1, q, c, g, l, x, hq, hc, hg, hl, e => by
    unfold wlp at e
    obtain ⟨b1, b2, b3, b4, b5, b6⟩ := hpl.1 q hq
    by_cases u : c &&& (f q).2.2.1 ≠ 0 ∨ l (f q).2.1 = 0
    · rw [if_pos u] at e; cases e
    · rw [if_neg u] at e
      have dis : c &&& (f q).2.2.1 = 0 := Classical.byContradiction fun a => u (Or.inl a)
      have po := pop_or dis
      have co : c ||| (f q).2.2.1 < 2 ^ fb_ct S 64 := Nat.or_lt_two_pow hc b2
      have go : g &&& (f q).2.2.2 < 2 ^ 8 := Nat.and_lt_two_pow _ b1.2.2.2
      have lo := lsub_15 (k := (f q).2.1) (t := 1) hl
      have three : ∀ y, pop (c ||| (f q).2.2.1) ≤ y → pop c + 3 ≤ y := fun y hy => by omega
      cases t' : (if mo = 0 then some i0 else imO w h S P f mo q) with
      | none => rw [t'] at e; cases e
      | some q' =>
        rw [t'] at e
        dsimp only at e
        by_cases v : q' = i0
        · rw [if_pos v] at e
          rw [← Option.some.inj e]
          exact ⟨co, go, lo, by show pop c ≤ pop (c ||| (f q).2.2.1); omega, fun _ => three _ (Nat.le_refl _)⟩
        · rw [if_neg v] at e
          have qP : q' < P := by
            by_cases m0 : mo = 0
            · rw [if_pos m0] at t'
              exact absurd (Option.some.inj t').symm v
            · rw [if_neg m0] at t'
              exact (imO_s t').1
          obtain ⟨r1, r2, r3, r4, r5⟩ := wlp_g hpl hn t q' _ _ _ x qP co go lo e
          exact ⟨r1, r2, r3, by omega, fun _ => three _ r4⟩
theorem TT_g (hpl : plg S Z P f) (hn : fb_ct S 64 ≤ 24) : tgd (fb_ct S 64) P (TT w h S K Z P f) (GG w h S) := by
  refine ⟨fun e he => ⟨Nat.lt_trans he.1 (by decide), he.2.1⟩, fun e i e' he hi ht => ?_⟩
  unfold TT at ht
  cases t : wlp w h S P f (e / 2 ^ 56) i 4 i (e % 2 ^ 24) (e / 2 ^ 24 % 2 ^ 8) (dcl e) with
  | none => rw [t] at ht; cases ht
  | some x =>
    rw [t] at ht
    have e2 := Option.some.inj ht
    obtain ⟨r1, r2, r3, r4, r5⟩ := wlp_g hpl hn 4 i _ _ _ x hi he.2.1 (Nat.mod_lt _ (by decide)) (dcl_15 e) t
    have c24 : x.1 < 2 ^ 24 := Nat.lt_of_lt_of_le r1 (Nat.pow_le_pow_right (by decide) hn)
    have b15 := bndl_15 (K := K) (Z := Z) (n := fb_ct S 64) (c := x.1) r3
    have he1 := he.1
    have mo8 : e / 2 ^ 56 < 8 := by omega
    have l1 := encN_lt c24 r2 b15 mo8
    have m1 := encN_m (mo := e / 2 ^ 56) c24 r2 b15
    have c1 := encN_c (g := x.2.1) (l := bndl K Z (fb_ct S 64) x.1 x.2.2) (mo := e / 2 ^ 56) c24
    rw [← e2]
    refine ⟨⟨l1, by rw [c1]; exact r1, ?_⟩, by rw [c1]; exact r5 (by omega)⟩
    rw [m1]; exact he.2.2
theorem sq_withT {e i : Nat} (hd : jd w h r S) (hk : kdc K C M Z A z) (hx : exr (fb_ct S 64) P f st z) (hpl : plg S Z P f) (hv : ∀ m, m < 8 → gok w h S m = true → mvd w h S m z) (he : GG w h S e) (hi : i < P) (kk : Q (.inl (some (.long (match TT w h S K Z P f e i with | none => -1 | some e' => lN e')))) z) : wm_X4_with (lN e) (lN (pcE (f i))) z Q := by
  have n24 := hx.2.1
  have he1 := he.1
  have hb : ∀ p, p < P → pcb (f p) := fun p hp => (hpl.1 p hp).1
  obtain ⟨y0, y1, y2, y3⟩ := id (hb i hi)
  have p35 := pcE_lt (hb i hi)
  obtain ⟨mo, hmo⟩ : ∃ mo, mo = e / 2 ^ 56 := ⟨_, rfl⟩
  have mo8 : mo < 8 := by omega
  unfold wm_X4_with
  intro v1 e1 v2 e2 v3 e3
  rw [show (56 : Int32) = nI 56 from rfl, l_shrN (by omega) (by omega), l_i32, ← hmo] at e1
  rw [pcE_k (hb i hi), l_i32] at e2
  subst e1
  subst e2
  rw [i_at] at e3
  subst e3
  have ed := enc_dec he1
  unfold TT at kk
  rw [← hmo] at kk ed
  have gd : mo = 0 ∨ gok w h S mo = true := by rw [hmo]; exact he.2.2
  unfold wc_X4_with_32
  refine lp_inv (fun t st' => ∃ q c g l, q < P ∧ (f q).2.1 = (f i).2.1 ∧ c < 2 ^ fb_ct S 64 ∧ g < 2 ^ 8 ∧ l15 l ∧ st' = (lN (encN c g l mo), lN (pcE (f q)), nI t, z) ∧ wlp w h S P f mo i 4 i (e % 2 ^ 24) (e / 2 ^ 24 % 2 ^ 8) (dcl e) = wlp w h S P f mo i (4 - t) q c g l) 4 ?_ ⟨i, _, _, _, hi, rfl, he.2.1, Nat.mod_lt _ (by decide), dcl_15 e, by rw [ed]; rfl, by rw [Nat.sub_zero]⟩
  rintro t st' ht ⟨q, c, g, l, hq, hqk, hc, hg, hl, rfl, hw⟩ B hB
  simp only
  have c24 : c < 2 ^ 24 := Nat.lt_of_lt_of_le hc (Nat.pow_le_pow_right (by decide) n24)
  have stop : ∀ c g l, c < 2 ^ fb_ct S 64 → g < 2 ^ 8 → l15 l → wlp w h S P f mo i 4 i (e % 2 ^ 24) (e / 2 ^ 24 % 2 ^ 8) (dcl e) = some (c, g, l) → wc_X4_with_149 Q (lN (encN c g l mo)) z := by
    intro c g l hc hg hl hw
    unfold wc_X4_with_149
    refine sq_bounded hk hx.1 n24 hc hg hl mo8 ⟨_, rfl, ?_⟩
    rw [hw] at kk
    exact kk
  by_cases t4 : t = 4
  · subst t4
    unfold wb_X4_with_32
    refine ⟨fun _ => stop c g l hc hg hl hw, fun u => absurd ?_ u⟩
    rw [i_4]
    exact (i_le (by omega) (by omega)).mpr (Nat.le_refl _)
  obtain ⟨d, hd4⟩ : ∃ d, 4 - t = d + 1 := ⟨4 - t - 1, by omega⟩
  rw [hd4] at hw
  obtain ⟨b1, b2, b3, b4, b5, b6⟩ := hpl.1 q hq
  have body := @sq_wbody z Q (fun b8 b10 b12 z => B (b8, b10, b12, z)) c g mo t l (f q) (lN (pcE (f i))) (nI mo) c24 hg hl mo8 b1 (by omega)
  rw [hqk] at body
  refine body (fun hbad => ?_) (fun h3 h4 => ?_)
  · have : wlp w h S P f mo i (d + 1) q c g l = none := by
      unfold wlp
      rw [if_pos (by rw [hqk]; exact hbad)]
    rw [hw, this] at kk
    exact kk
  have co : c ||| (f q).2.2.1 < 2 ^ fb_ct S 64 := Nat.or_lt_two_pow hc b2
  have go : g &&& (f q).2.2.2 < 2 ^ 8 := Nat.and_lt_two_pow _ b1.2.2.2
  have lo := lsub_15 (k := (f i).2.1) (t := 1) hl
  have stp : wlp w h S P f mo i (d + 1) q c g l = (match (if mo = 0 then some i else imO w h S P f mo q) with
      | none => none
      | some q' => if q' = i then some (c ||| (f q).2.2.1, g &&& (f q).2.2.2, lsub l (f i).2.1 1) else wlp w h S P f mo i d q' (c ||| (f q).2.2.1) (g &&& (f q).2.2.2) (lsub l (f i).2.1 1)) := by
    conv => lhs; unfold wlp
    rw [hqk, if_neg (fun u => u.elim (fun a => a h3) (fun a => h4 a))]
  have after : ∀ q', (if mo = 0 then some i else imO w h S P f mo q) = some q' → q' < P → (f q').2.1 = (f i).2.1 → wc_X4_with_120 (fun b8 b10 b12 z => B (b8, b10, b12, z)) Q (lN (pcE (f i))) (nI mo) (nI (f i).2.1) (nI (32 + 4 * (f i).2.1)) (lN (encN (c ||| (f q).2.2.1) (g &&& (f q).2.2.2) (lsub l (f i).2.1 1) mo)) (nI t) (lN (pcE (f q'))) z := by
    intro q' e' hq' hk'
    rw [e'] at stp
    dsimp only at stp
    have q35 := pcE_lt (hb q' hq')
    unfold wc_X4_with_120
    rw [show (0 : Int64) = lN 0 from rfl, pk_lLE (by omega) (by omega), fb_lN_inj (by omega) (by omega)]
    refine ⟨fun _ => ⟨fun u v ev => ?_, fun u => ?_⟩, fun u => absurd (Nat.zero_le _) u⟩
    · have ne : q' ≠ i := fun a => u (by rw [a])
      rw [if_neg ne] at stp
      rw [i_1, i_add] at ev
      subst ev
      refine hB (by omega) _ ⟨q', _, _, _, hq', hk', co, go, lo, rfl, ?_⟩
      rw [hw, stp, show 4 - (t + 1) = d by omega]
    · have eq : q' = i := hpl.2 q' i hq' hi (pcE_i (hb q' hq') (hb i hi) u).1 (pcE_i (hb q' hq') (hb i hi) u).2
      rw [if_pos eq] at stp
      unfold wc_X4_with_140
      exact stop _ _ _ co go lo (by rw [hw, stp])
  rw [show (0 : Int32) = nI 0 from rfl, i_eq (by omega) (by omega)]
  refine ⟨fun m0 => ?_, fun m0 => after i (if_pos m0) hi rfl⟩
  have gm : gok w h S mo = true := gd.resolve_left m0
  have im := @sq_imageOf w h r S z (tq_wl fun r103 z102 => wc_X4_with_120 (fun b8 b10 b12 z => B (b8, b10, b12, z)) Q (lN (pcE (f i))) (nI mo) (nI (f i).2.1) (nI (32 + 4 * (f i).2.1)) (lN (encN (c ||| (f q).2.2.1) (g &&& (f q).2.2.2) (lsub l (f i).2.1 1) mo)) (nI t) r103 z102) (fb_ct S 64) P f st mo q hd rfl hx (fun p hp => ⟨(hpl.1 p hp).2.1, (hpl.1 p hp).2.2.1, (hpl.1 p hp).2.2.2.1⟩) hpl.2 mo8 gm (hv mo mo8 gm) hq
  rw [hqk] at im
  refine im ⟨_, rfl, ?_⟩
  cases t' : imO w h S P f mo q with
  | none =>
    have sn : wlp w h S P f mo i (d + 1) q c g l = none := by rw [stp, if_neg m0, t']
    rw [hw, sn] at kk
    dsimp only
    unfold wc_X4_with_120
    exact ⟨fun u => absurd u (by decide +kernel), fun _ => kk⟩
  | some q' =>
    obtain ⟨t1, t2, _⟩ := imO_s t'
    exact after q' (by rw [if_neg m0, t']) t1 (by rw [t2, hqk])
theorem sq_weighT {e : Nat} (he : e < 2 ^ 59) (kk : Q (.inl (some (.long (lN (WW e))))) z) : wm_X4_weigh (lN e) z Q := by
  unfold wm_X4_weigh
  refine sp_bc ⟨_, rfl, ?_⟩
  have cnt : fb_ct (ct (lN e &&& (4278190080 : Int64))) 64 = pop8 (e / 2 ^ 24 % 2 ^ 8) := by
    unfold pop8
    rw [show (64 : Nat) = 24 + (8 + 32) from rfl, fb_ct_split, fb_ct_split]
    have e1 : fb_ct (ct (lN e &&& (4278190080 : Int64))) 24 = 0 := fb_ct_zero.mpr (fun k hk => by
      rw [ct_and, motk ⟨k, by omega⟩, decide_eq_false (show ¬ 24 ≤ k by omega), Bool.false_and, Bool.and_false])
    have e2 : fb_ct (fun k => ct (lN e &&& (4278190080 : Int64)) (24 + (8 + k))) 32 = 0 := fb_ct_zero.mpr (fun k hk => by
      rw [ct_and, motk ⟨24 + (8 + k), by omega⟩, decide_eq_false (show ¬ 24 + (8 + k) < 32 by omega), Bool.and_false, Bool.and_false])
    rw [e1, e2, Nat.zero_add, Nat.add_zero]
    refine fb_ct_cong (fun i hi => ?_)
    rw [ct_and, motk ⟨24 + i, by omega⟩, decide_eq_true (show 24 ≤ 24 + i by omega), decide_eq_true (show 24 + i < 32 by omega), Bool.and_self, Bool.and_true, ct_lN, decide_eq_true (by omega), Bool.true_and, Nat.testBit_mod_two_pow, decide_eq_true (show i < 8 from hi), Bool.true_and, Nat.testBit_div_two_pow, Nat.add_comm]
  have p8 : pop8 (e / 2 ^ 24 % 2 ^ 8) ≤ 8 := fb_ct_le _ _
  rw [cnt]
  dsimp only
  unfold WW at kk
  rw [show (0 : Int32) = nI 0 from rfl, i_eq (by omega) (by omega)]
  refine ⟨fun u => ⟨u, ?_⟩, fun u => ?_⟩
  · rw [if_neg u] at kk
    rw [show (840 : Int32) = nI 840 from rfl, pk_div (by omega) (by omega) (by omega), i_to (by
      have := Nat.div_le_self 840 (pop8 (e / 2 ^ 24 % 2 ^ 8)); omega)]
    exact kk
  · rw [if_pos u] at kk
    exact kk
end WLP
