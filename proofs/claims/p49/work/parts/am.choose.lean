section CHO
variable {w h : Nat} {r : Bool} {S : Nat → Bool} {z : tq_S} {Q : tq_O → tq_S → Prop} {K P : Nat} {C M Z : Nat → Nat} {A : Nat → Int64} {f : Nat → plc} {st : Nat → Nat} {g0 : Nat}
/-- states that are only counted -/
def ctd (w h : Nat) (S : Nat → Bool) (K : Nat) (Z : Nat → Nat) (e : Nat) (l : Nat → Nat) : Prop := GG w h S e ∧ e / 2 ^ 56 = 0 ∧ e / 2 ^ 24 % 2 ^ 8 = 0 ∧ ∀ k, k < K → min (dcl e k) (rmF Z (fb_ct S 64) (e % 2 ^ 24) k) = min (l k) (rmF Z (fb_ct S 64) (e % 2 ^ 24) k)
theorem ctd_s (hpl : plg S Z P f) (hkK : ∀ p, p < P → (f p).2.1 < K) (hK6 : K ≤ 6) (hn : fb_ct S 64 ≤ 24) {e i : Nat} {l : Nat → Nat} (he : ctd w h S K Z e l) (hi : i < P) : (¬ ((e % 2 ^ 24) &&& (f i).2.2.1 = 0 ∧ l (f i).2.1 ≠ 0) ∧ TT w h S K Z P f e i = none) ∨ (((e % 2 ^ 24) &&& (f i).2.2.1 = 0 ∧ l (f i).2.1 ≠ 0) ∧ ∃ e', TT w h S K Z P f e i = some e' ∧ e' % 2 ^ 24 = (e % 2 ^ 24) ||| (f i).2.2.1 ∧ ctd w h S K Z e' (lsub l (f i).2.1 1)) := by
  obtain ⟨hg, m0, g0, hl⟩ := he
  obtain ⟨b1, b2, b3, b4, b5, b6⟩ := hpl.1 i hi
  have kK := hkK i hi
  have tt : TT w h S K Z P f e i = (match (if (e % 2 ^ 24) &&& (f i).2.2.1 ≠ 0 ∨ dcl e (f i).2.1 = 0 then none else some ((e % 2 ^ 24) ||| (f i).2.2.1, 0 &&& (f i).2.2.2, lsub (dcl e) (f i).2.1 1) : Option (Nat × Nat × (Nat → Nat))) with
    | none => none
    | some x => some (encN x.1 x.2.1 (bndl K Z (fb_ct S 64) x.1 x.2.2) 0)) := by
    unfold TT
    rw [m0, g0, wlp_0]
    rfl
  by_cases dis : (e % 2 ^ 24) &&& (f i).2.2.1 = 0
  rotate_left
  · exact Or.inl ⟨fun a => dis a.1, by rw [tt, if_pos (Or.inl dis)]⟩
  have po := pop_or dis
  have co : (e % 2 ^ 24) ||| (f i).2.2.1 < 2 ^ fb_ct S 64 := Nat.or_lt_two_pow hg.2.1 b2
  have cp := pop_le co hn
  have r1 : 1 ≤ rmF Z (fb_ct S 64) (e % 2 ^ 24) (f i).2.1 := by
    unfold rmF
    rw [← b5]
    exact (Nat.le_div_iff_mul_le (by omega)).mpr (by omega)
  have lk := hl _ kK
  by_cases l0 : l (f i).2.1 = 0
  · exact Or.inl ⟨fun a => a.2 l0, by rw [tt, if_pos (Or.inr (by omega))]⟩
  have d0 : dcl e (f i).2.1 ≠ 0 := by omega
  refine Or.inr ⟨⟨dis, l0⟩, ?_⟩
  rw [tt, if_neg (fun a => a.elim (fun b => b dis) (fun b => d0 b)), Nat.zero_and]
  dsimp only
  have c24 : (e % 2 ^ 24) ||| (f i).2.2.1 < 2 ^ 24 := Nat.lt_of_lt_of_le co (Nat.pow_le_pow_right (by decide) hn)
  have b15 := bndl_15 (K := K) (Z := Z) (n := fb_ct S 64) (c := (e % 2 ^ 24) ||| (f i).2.2.1) (lsub_15 (k := (f i).2.1) (t := 1) (dcl_15 e))
  obtain ⟨e', he'⟩ : ∃ e', e' = encN ((e % 2 ^ 24) ||| (f i).2.2.1) 0 (bndl K Z (fb_ct S 64) ((e % 2 ^ 24) ||| (f i).2.2.1) (lsub (dcl e) (f i).2.1 1)) 0 := ⟨_, rfl⟩
  rw [← he']
  have c1 : e' % 2 ^ 24 = (e % 2 ^ 24) ||| (f i).2.2.1 := by rw [he']; exact encN_c c24
  have m1 : e' / 2 ^ 56 = 0 := by rw [he']; exact encN_m c24 (by omega) b15
  have l1 : e' < 2 ^ 59 := by rw [he']; exact encN_lt c24 (by omega) b15 (by omega)
  have g1 : e' / 2 ^ 24 % 2 ^ 8 = 0 := by
    rw [he']
    unfold encN
    omega
  refine ⟨e', rfl, c1, ⟨l1, by rw [c1]; exact co, Or.inl m1⟩, m1, g1, fun k hk => ?_⟩
  have dk : dcl e' k = bndl K Z (fb_ct S 64) ((e % 2 ^ 24) ||| (f i).2.2.1) (lsub (dcl e) (f i).2.1 1) k := by
    unfold dcl
    rw [he']
    exact encN_l c24 (by omega) b15 (by omega)
  rw [dk, c1]
  unfold bndl
  rw [if_pos hk]
  have hk1 := hl k hk
  have mono : rmF Z (fb_ct S 64) ((e % 2 ^ 24) ||| (f i).2.2.1) k ≤ rmF Z (fb_ct S 64) (e % 2 ^ 24) k := by
    unfold rmF
    exact Nat.div_le_div_right (by omega)
  unfold lsub
  by_cases kk : k = (f i).2.1
  · rw [if_pos kk, if_pos kk]
    have dd : rmF Z (fb_ct S 64) (e % 2 ^ 24) k = rmF Z (fb_ct S 64) ((e % 2 ^ 24) ||| (f i).2.2.1) k + 1 := by
      unfold rmF
      rw [po, kk, b5, Nat.div_eq_sub_div (by omega) (by omega), Nat.sub_sub]
    omega
  · rw [if_neg kk, if_neg kk]
    omega
/-- what a place leads to -/
def tv (n P : Nat) (f : Nat → plc) (T : Nat → Nat → Option Nat) (W : Nat → Nat) (e i : Nat) : Nat := match T e i with | none => 0 | some e' => VV n P f T W e'
theorem tv_tm (hpl : plg S Z P f) (hkK : ∀ p, p < P → (f p).2.1 < K) (hK6 : K ≤ 6) (hn : fb_ct S 64 ≤ 24) {e i t : Nat} {l : Nat → Nat} (he : ctd w h S K Z e l) (hi : i < P) (hf : (f i).1 = tro (e % 2 ^ 24)) (ht : fb_ct S 64 ≤ pop (e % 2 ^ 24) + 3 * (t + 1)) (ht8 : t ≤ 8) : tv (fb_ct S 64) P f (TT w h S K Z P f) WW e i = tm (fb_ct S 64) P f t (e % 2 ^ 24) l i := by
  unfold tv tm
  rcases ctd_s (w := w) (h := h) hpl hkK hK6 hn he hi with ⟨a, b⟩ | ⟨a, e', b, c, d⟩
  · rw [b, if_neg (fun u => a u.2)]
  · rw [b, if_pos ⟨hf, a⟩]
    dsimp only
    have tg := TT_g (w := w) (h := h) (K := K) hpl hn
    have := (tg.2 e i e' he.1 hi b).2
    have e1 := sr_st (F := fun i => (f i).1) (W := WW) hn tg t 8 e' d.1 (by omega) ht8
    have e2 := cnx_sr (w := w) (h := h) hpl hkK hK6 hn t e' _ d.1 d.2.1 d.2.2.1 d.2.2.2
    unfold VV
    rw [← e1, e2, c]
def FCh : List (Nat × Nat) := [(3, 34), (3, 35), (2, 37), (0, 1803)]
/-- the class has chosen the places of L -/
def chs (L : List Nat) (z : tq_S) : Prop := tq_fi z 1803 = nI L.length ∧ ∀ k, k < L.length → tq_ai z 37 k = nI (L.getD k 0)
theorem sq_chooseE {j0 : Nat} (hd : jd w h r S) (hk : kdc K C M Z A z) (hs : shps K C Z A) (h24 : fb_ct S 64 ≤ 24) (he : exc w h r S K C M Z A P f st g0 z) (hT : exn (fb_ct S 64) P f K M < 2147483648) (hj : j0 < exn (fb_ct S 64) P f K M) (kk : ∀ z', fr FCh z z' → memo (VV (fb_ct S 64) P f (TT w h S K Z P f) WW) (GG w h S) z' → chs (pth (fb_ct S 64) P f 8 0 (mst K M) j0) z' → Q (.inl none) z') : wm_X4_choose (lN j0) z Q := by
  have hK := hk.2.1
  have hM : ∀ j, j < K → M j ≤ 8 := fun j hj => (hk.2.2 j hj).2.1.2
  have hZ : ∀ k, k < K → 3 ≤ Z k := fun k hk' => (hk.2.2 k hk').2.2.1.2.1
  obtain ⟨n1, gr1, x1, p1, cd1, m1, t1, o1⟩ := he
  have pl := prs_plg hd hs h24 hZ p1
  have hkK : ∀ p, p < P → (f p).2.1 < K := fun p hp => (p1.2 p hp).1
  have tg := TT_g (w := w) (h := h) (K := K) pl h24
  have P12 := x1.2.2.1
  obtain ⟨bg1, bg2, bg3, bg4⟩ := bg_ok (w := w) (h := h) (S := S) (K := K) (M := M) (Z := Z) hM
  obtain ⟨e0, he0⟩ : ∃ e0, e0 = bgE K M Z (fb_ct S 64) := ⟨_, rfl⟩
  have bm := bg_min (S := S) (Z := Z) hM hK
  rw [← he0] at bg1 bg2 bg3 bg4 o1 bm
  obtain ⟨L, hL⟩ : ∃ L, L = pth (fb_ct S 64) P f 8 0 (mst K M) j0 := ⟨_, rfl⟩
  rw [← hL] at kk
  unfold wm_X4_choose
  refine sq_beginning hk x1.1 h24 ⟨_, rfl, ?_⟩
  rw [show encN 0 0 (bndl K Z (fb_ct S 64) 0 (mst K M)) 0 = e0 from he0.symm]
  intro z3 e3
  have f3 : fr FCh z z3 := by rw [e3]; exact fr_sfi (by decide) fr_r
  unfold wc_X4_choose_16
  refine lp_inv (fun d s => ∃ e l j z', s = (lN j, lN e, nI d, z') ∧ fr FCh z z' ∧ memo (VV (fb_ct S 64) P f (TT w h S K Z P f) WW) (GG w h S) z' ∧ ctd w h S K Z e l ∧ 3 * d ≤ pop (e % 2 ^ 24) ∧ j < cnx (fb_ct S 64) P f (8 - d) (e % 2 ^ 24) l ∧ cnx (fb_ct S 64) P f (8 - d) (e % 2 ^ 24) l < 2147483648 ∧ tq_fi z' 1803 = nI d ∧ d ≤ L.length ∧ (∀ k, k < d → tq_ai z' 37 k = nI (L.getD k 0)) ∧ L.drop d = pth (fb_ct S 64) P f (8 - d) (e % 2 ^ 24) l j ∧ (d = 0 → e = e0)) 8 ?_ ⟨e0, mst K M, j0, z3, rfl, f3, fun s hs' => by rw [e3]; exact m1 s hs', ⟨bg1, bg4, bg3, bm⟩, Nat.zero_le _, by rw [bg2]; exact hj, by rw [bg2]; exact hT, by rw [e3]; rfl, Nat.zero_le _, fun k hk' => absurd hk' (Nat.not_lt_zero _), by rw [List.drop_zero, bg2, hL], fun _ => rfl⟩
  rintro d s hd8 ⟨e, l, j, z4, rfl, f4, m4, c4, p4, j4, jb, k4, dl, a4, l4, d4⟩ B hB
  simp only
  have x4 := exr_f f4 (by decide) (by decide) (by decide) x1
  have done : L.drop d = [] → Q (.inl none) z4 := fun e1 => by
    have := List.drop_eq_nil_iff.mp e1
    have ll : L.length = d := by omega
    exact kk z4 f4 m4 ⟨by rw [k4, ll], fun k hk' => a4 k (by omega)⟩
  unfold wb_X4_choose_16
  rw [i_8, i_le (by omega) (by omega)]
  refine ⟨fun q => done ?_, fun q => ?_⟩
  · have : d = 8 := by omega
    subst this
    rw [l4]; rfl
  refine sq_firstOpen ⟨_, rfl, ?_⟩
  obtain ⟨o, o24, oe, _, _⟩ := tro_ex (e % 2 ^ 24)
  rw [x4.1, i_le (by omega) (by omega)]
  refine ⟨fun q2 => done ?_, fun q2 => ?_⟩
  · rw [l4, pth_0 q2]
  refine sq_firstOpen ⟨_, rfl, ?_⟩
  obtain ⟨so1, so2⟩ := x4.2.2.2.2.1 (tro (e % 2 ^ 24)) (by omega)
  obtain ⟨sp1, sp2⟩ := x4.2.2.2.2.1 (tro (e % 2 ^ 24) + 1) (by omega)
  rw [i_cl (by omega), so1]
  refine ⟨i_in (by omega) (by omega), fun v5 e5 => ?_⟩
  subst e5
  obtain ⟨t, ht⟩ : ∃ t, 8 - d = t + 1 := ⟨7 - d, by omega⟩
  rw [ht, cnx_s, if_neg q2] at j4 jb
  have sts4 := x4.2.2.2.2.2
  have zero : ∀ i, i < P → (f i).1 ≠ tro (e % 2 ^ 24) → tm (fb_ct S 64) P f t (e % 2 ^ 24) l i = 0 := fun i _ hf => by
    unfold tm
    rw [if_neg (fun u => hf u.1)]
  have lo : ∀ i, i ≤ st (tro (e % 2 ^ 24)) → fb_sm (tm (fb_ct S 64) P f t (e % 2 ^ 24) l) i = 0 := fun i hi => by
    have : fb_sm (tm (fb_ct S 64) P f t (e % 2 ^ 24) l) i = fb_sm (fun _ => 0) i := fb_sm_cong (fun k hk' => zero k (by omega) (fun u => by
      have := (sts4 (tro (e % 2 ^ 24)) (by omega) k (by omega)).mp (by omega)
      omega))
    rw [this, fb_sm_0]
  have hi' : ∀ i, st (tro (e % 2 ^ 24) + 1) ≤ i → i ≤ P → fb_sm (tm (fb_ct S 64) P f t (e % 2 ^ 24) l) P = fb_sm (tm (fb_ct S 64) P f t (e % 2 ^ 24) l) i := fun i h1 h2 => by
    obtain ⟨b, hb⟩ : ∃ b, P = i + b := ⟨P - i, by omega⟩
    rw [hb, fb_sm_split]
    have : fb_sm (fun k => tm (fb_ct S 64) (i + b) f t (e % 2 ^ 24) l (i + k)) b = fb_sm (fun _ => 0) b := fb_sm_cong (fun k hk' => by
      have z := zero (i + k) (by omega) (fun u => by
        have := (sts4 (tro (e % 2 ^ 24) + 1) (by omega) (i + k) (by omega)).mpr (by omega)
        omega)
      rw [hb] at z
      exact z)
    rw [this, fb_sm_0, Nat.add_zero]
  unfold wc_X4_choose_51
  refine lp_inv (fun b s => ∃ z5, s = (lN (j - fb_sm (tm (fb_ct S 64) P f t (e % 2 ^ 24) l) (st (tro (e % 2 ^ 24)) + b)), nI (st (tro (e % 2 ^ 24)) + b), z5) ∧ fr FSe z4 z5 ∧ memo (VV (fb_ct S 64) P f (TT w h S K Z P f) WW) (GG w h S) z5 ∧ fb_sm (tm (fb_ct S 64) P f t (e % 2 ^ 24) l) (st (tro (e % 2 ^ 24)) + b) ≤ j) (P - st (tro (e % 2 ^ 24))) ?_ ⟨z4, by rw [Nat.add_zero, lo _ (Nat.le_refl _), Nat.sub_zero], fr_r, m4, by rw [Nat.add_zero, lo _ (Nat.le_refl _)]; exact Nat.zero_le _⟩
  rintro b s hb ⟨z5, rfl, f5, m5, le5⟩ B2 hB2
  simp only
  obtain ⟨i, hi⟩ : ∃ i, i = st (tro (e % 2 ^ 24)) + b := ⟨_, rfl⟩
  rw [← hi] at le5 ⊢
  have x5 := exr_f f5 (by decide) (by decide) (by decide) x4
  have f05 : fr FCh z z5 := fr_t f4 (fr_m (by decide) f5)
  unfold wb_X4_choose_51
  rw [i_1, i_add, i_cl (by omega), (x5.2.2.2.2.1 (tro (e % 2 ^ 24) + 1) (by omega)).1, i_le (by omega) (by omega)]
  refine ⟨i_in (by omega) (by omega), fun q3 => ?_, fun q3 => ?_⟩
  · have := hi' i q3 (by omega)
    omega
  have iP : i < P := by omega
  have fi : (f i).1 = tro (e % 2 ^ 24) := by
    have a := (sts4 (tro (e % 2 ^ 24)) (by omega) i iP)
    have c := (sts4 (tro (e % 2 ^ 24) + 1) (by omega) i iP)
    have c1 := c.mp (by omega)
    have a1 : ¬ (f i).1 < tro (e % 2 ^ 24) := fun u => by have := a.mpr u; omega
    omega
  have val := tv_tm (w := w) (h := h) (t := t) pl hkK hK h24 c4 iP fi (by omega) (by omega)
  have sm1 := fb_sm_succ (tm (fb_ct S 64) P f t (e % 2 ^ 24) l) i
  have tbd : tm (fb_ct S 64) P f t (e % 2 ^ 24) l i < 2147483648 := by
    have m : fb_sm (tm (fb_ct S 64) P f t (e % 2 ^ 24) l) (i + 1) ≤ fb_sm (tm (fb_ct S 64) P f t (e % 2 ^ 24) l) P := by
      obtain ⟨x, hx⟩ : ∃ x, P = i + 1 + x := ⟨P - (i + 1), by omega⟩
      have := fb_sm_mono (tm (fb_ct S 64) P f t (e % 2 ^ 24) l) (i + 1) x
      rw [← hx] at this
      exact this
    omega
  -- what is done with the number of ways
  have use : ∀ z6 (a10 : Int64), fr FSe z5 z6 → memo (VV (fb_ct S 64) P f (TT w h S K Z P f) WW) (GG w h S) z6 → (∀ e', TT w h S K Z P f e i = some e' → a10 = lN e') → wc_X4_choose_124 (fun b3 b5 b7 z => B (b3, b5, b7, z)) (fun b3 b9 z => B2 (b3, b9, z)) Q (lN (j - fb_sm (tm (fb_ct S 64) P f t (e % 2 ^ 24) l) i)) (lN e) (nI d) (nI (tro (e % 2 ^ 24))) (nI i) a10 (lN (tm (fb_ct S 64) P f t (e % 2 ^ 24) l i)) z6 := by
    intro z6 a10 f6 m6 ha
    unfold wc_X4_choose_124
    rw [pk_lLE (by omega) (by omega)]
    refine ⟨fun u v ev v2 ev2 => ?_, fun u => ?_⟩
    · rw [l_sub u] at ev
      rw [i_1, i_add] at ev2
      subst ev
      subst ev2
      refine hB2 (by omega) _ ⟨z6, ?_, fr_t f5 f6, m6, ?_⟩
      · rw [show st (tro (e % 2 ^ 24)) + (b + 1) = i + 1 by omega, sm1, Nat.sub_sub]
      · rw [show st (tro (e % 2 ^ 24)) + (b + 1) = i + 1 by omega, sm1]; omega
    · unfold wc_X4_choose_133
      have lt1 : j - fb_sm (tm (fb_ct S 64) P f t (e % 2 ^ 24) l) i < tm (fb_ct S 64) P f t (e % 2 ^ 24) l i := by omega
      have pe := pth_s (P := P) (f := f) (l := l) (t := t) (j := j) q2 iP le5 (by omega)
      rw [ht, pe] at l4
      rcases ctd_s (w := w) (h := h) pl hkK hK h24 c4 iP with ⟨a, bb⟩ | ⟨a, e', bb, c, dd⟩
      · have : tm (fb_ct S 64) P f t (e % 2 ^ 24) l i = 0 := by
          unfold tm
          rw [if_neg (fun u => a u.2)]
        omega
      · rw [ha e' bb]
        refine ⟨i_in (by omega) (by omega), fun z7 e7 z8 e8 => ?_⟩
        rw [i_cl (by omega)] at e7
        unfold wc_X4_choose_168
        intro v ev
        rw [i_1, i_add] at ev e8
        subst ev
        have z6_8 : fr [(2, 37), (0, 1803)] z6 z8 := by
          rw [e8]
          refine fr_sfi (by decide) ?_
          rw [e7]; exact fr_sai (by decide) fr_r
        have tmc : tm (fb_ct S 64) P f t (e % 2 ^ 24) l i = cnx (fb_ct S 64) P f t (e' % 2 ^ 24) (lsub l (f i).2.1 1) := by
          unfold tm
          rw [if_pos ⟨fi, a⟩, c]
        have up2 := (tg.2 e i e' c4.1 iP bb).2
        have head : L.getD d 0 = i ∧ L.drop (d + 1) = pth (fb_ct S 64) P f t ((e % 2 ^ 24) ||| (f i).2.2.1) (lsub l (f i).2.1 1) (j - fb_sm (tm (fb_ct S 64) P f t (e % 2 ^ 24) l) i) ∧ d < L.length := by
          have dlt : d < L.length := by
            refine Nat.lt_of_not_le fun u2 => ?_
            have : L.drop d = [] := List.drop_eq_nil_iff.mpr u2
            rw [this] at l4
            cases l4
          have := List.drop_eq_getElem_cons dlt
          rw [this] at l4
          refine ⟨?_, (List.cons.inj l4).2, dlt⟩
          rw [List.getD_eq_getElem?_getD, List.getElem?_eq_getElem dlt]
          exact (List.cons.inj l4).1
        refine hB (by omega) _ ⟨e', lsub l (f i).2.1 1, _, z8, rfl, fr_t f05 (fr_t (fr_m (by decide) f6) (fr_m (by decide) z6_8)), fun s hs' => by rw [fr_al z6_8 (by decide), fr_al z6_8 (by decide)]; exact m6 s hs', dd, by omega, by rw [show 8 - (d + 1) = t by omega, ← tmc]; exact lt1, by rw [show 8 - (d + 1) = t by omega, ← tmc]; exact tbd, by rw [e8]; rfl, by omega, fun k hk' => ?_, by rw [show 8 - (d + 1) = t by omega, c]; exact head.2.1, fun u2 => absurd u2 (by omega)⟩
        have a37 : tq_ai z8 37 k = if k = d then nI i else tq_ai z6 37 k := by
          rw [e8, rw_ai_fi, e7, rw_aie, rw_upd]
        rw [a37]
        by_cases u2 : k = d
        · rw [if_pos u2, u2, head.1]
        · rw [if_neg u2, fr_ai f6 (by decide), fr_ai f5 (by decide)]
          exact a4 k (by omega)
  have st5 : kdc K C M Z A z5 := kdc_f f05 (by decide) (by decide) (by decide) (by decide) (by decide) hk
  have mv5 : ∀ m, m < 8 → gok w h S m = true → mvd w h S m z5 := fun m hm hg i hi => by
    rw [fr_ai f05 (by decide)]
    exact gr1.2.2.2 m hm hg i hi
  rw [i_cl (by omega), (x5.2.2.2.1 i iP).1]
  refine ⟨i_in (by omega) (by omega), ?_⟩
  refine sq_withT hd st5 x5 pl mv5 c4.1 iP ⟨_, rfl, ?_⟩
  have search : wc_X4_choose_103 (fun b3 b5 b7 z => B (b3, b5, b7, z)) (fun b3 b9 z => B2 (b3, b9, z)) Q (lN (j - fb_sm (tm (fb_ct S 64) P f t (e % 2 ^ 24) l) i)) (lN e) (nI d) (nI (tro (e % 2 ^ 24))) (nI i) (match TT w h S K Z P f e i with | none => -1 | some e' => lN e') z5 := by
    unfold wc_X4_choose_103
    unfold tv at val
    cases t' : TT w h S K Z P f e i with
    | none =>
      rw [t'] at val
      have u := use z5 (-1) fr_r m5 (fun e' h' => by rw [t'] at h'; cases h')
      rw [← val] at u
      exact ⟨fun a => absurd a (by decide +kernel), fun _ => u⟩
    | some e' =>
      rw [t'] at val
      obtain ⟨g1, g2⟩ := tg.2 e i e' c4.1 iP t'
      have e60 := (tg.1 e' g1).1
      show (0 ≤ lN e' → _) ∧ (¬ 0 ≤ lN e' → _)
      rw [show (0 : Int64) = lN 0 from rfl, pk_lLE (by omega) (by omega), i_1, i_add]
      refine ⟨fun _ => ?_, fun a => absurd (Nat.zero_le _) a⟩
      refine sq_search x5 tg (exc_w hd st5 x5 pl mv5) (7 - d) 40 (d + 1) e' z5 _ (by omega) (by omega) g1 (by omega) fr_r m5 (fun z6 f6 m6 => ⟨_, rfl, ?_⟩)
      have u := use z6 (lN e') f6 m6 (fun e'' h' => by rw [t'] at h'; rw [Option.some.inj h'])
      rw [← val] at u
      exact u
  rw [show (0 : Int32) = nI 0 from rfl, i_eq (by omega) (by omega)]
  refine ⟨fun _ => search, fun d0 => ?_⟩
  rw [show (288 : Int32) = nI 288 from rfl, i_le (by omega) (by omega)]
  refine ⟨fun _ => search, fun i288 => ⟨i_in (by omega) (by omega), ?_⟩⟩
  have ee := d4 d0
  have tr0 : tro (e % 2 ^ 24) = 0 := by rw [ee, bg2, tro_0]
  have ist : i < st 1 := by
    rw [tr0] at q3
    exact Nat.lt_of_not_le q3
  have op := o1 (by omega) i ist
  rw [fr_al (fr_t f4 (fr_m (by decide) f5)) (by decide), op]
  rw [ee] at val ⊢
  have u := use z5 (match TT w h S K Z P f e i with | none => -1 | some e' => lN e') fr_r m5 (fun e' h' => by rw [h'])
  rw [ee, ← val] at u
  exact u
end CHO
