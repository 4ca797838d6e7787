/-! ===== unlike: the class counts ===== -/
section UNC
variable {w h : Nat} {r : Bool} {S : Nat → Bool} {z : tq_S} {Q : tq_O → tq_S → Prop} {K P : Nat} {C M Z : Nat → Nat} {A : Nat → Int64} {f : Nat → plc} {st : Nat → Nat} {g0 : Nat}
/-- how many there are that no motion makes an earlier one of -/
noncomputable def unl (w h : Nat) (S : Nat → Bool) (P : Nat) (f : Nat → plc) (K : Nat) (M : Nat → Nat) : Nat := fb_ct (fun j => @decide (∀ m, m < 8 → Vf w h S P f K M j m = true → j ≤ acN w h S P f K M m j) (Classical.propDecidable _)) (exn (fb_ct S 64) P f K M)
/-- the state the search begins with for a motion -/
def stm (K : Nat) (M Z : Nat → Nat) (n g0 m : Nat) : Nat := encN 0 g0 (bndl K Z n 0 (mst K M)) m
theorem stm_ok (hM : ∀ j, j < K → M j ≤ 8) (hg : g0 < 2 ^ 8) {m n : Nat} (hm : m < 8) : stm K M Z n g0 m < 2 ^ 59 ∧ stm K M Z n g0 m % 2 ^ 24 = 0 ∧ stm K M Z n g0 m / 2 ^ 24 % 2 ^ 8 = g0 ∧ stm K M Z n g0 m / 2 ^ 56 = m ∧ ∀ k, k < 6 → dcl (stm K M Z n g0 m) k = bndl K Z n 0 (mst K M) k := by
  have b15 := bndl_15 (K := K) (Z := Z) (n := n) (c := 0) (mst_15 hM)
  refine ⟨encN_lt (by omega) hg b15 hm, encN_c (by omega), ?_, encN_m (by omega) hg b15, fun k hk => encN_l (by omega) hg b15 hk⟩
  unfold stm encN
  omega
theorem img_z {m : Nat} : img w h S m 0 = 0 := nat_x fun j => by
  rw [img_t]
  constructor
  · rintro ⟨i, _, e, _⟩
    rw [Nat.zero_testBit] at e; cases e
  · intro e
    rw [Nat.zero_testBit] at e; cases e
theorem VV_m (hd : jd w h r S) (hpl : plg S Z P f) (hkK : ∀ p, p < P → (f p).2.1 < K) (hK : K ≤ 6) (hM : ∀ j, j < K → M j ≤ 8) (hn : fb_ct S 64 ≤ 24) (hg : g0 < 2 ^ 8) {m : Nat} (hm : m < 8) (hgm : gok w h S m = true) : GG w h S (stm K M Z (fb_ct S 64) g0 m) ∧ VV (fb_ct S 64) P f (TT w h S K Z P f) WW (stm K M Z (fb_ct S 64) g0 m) = fb_sm (fun j => fxv w h S P f m g0 (LL S P f K M j)) (exn (fb_ct S 64) P f K M) := by
  obtain ⟨s1, s2, s3, s4, s5⟩ := stm_ok (K := K) (Z := Z) (n := fb_ct S 64) hM hg hm
  have gg : GG w h S (stm K M Z (fb_ct S 64) g0 m) := ⟨s1, by rw [s2]; exact Nat.two_pow_pos _, Or.inr (by rw [s4]; exact hgm)⟩
  refine ⟨gg, ?_⟩
  have mq : meq K Z (fb_ct S 64) (stm K M Z (fb_ct S 64) g0 m % 2 ^ 24) (dcl (stm K M Z (fb_ct S 64) g0 m)) (mst K M) := fun k hk => by
    rw [s5 k (by omega), s2]
    unfold bndl
    rw [if_pos hk]
    omega
  have := fx hd hpl hkK hK hn hm hgm 8 (stm K M Z (fb_ct S 64) g0 m) (mst K M) gg s4 (by rw [s2, img_z]) mq (by omega)
  rw [s2, s3] at this
  exact this
/-- what is known of exact covers stays while the class searches -/
theorem exc_k {F : List (Nat × Nat)} {z' : tq_S} (g : fr F z z') (hF : ∀ x, x ∈ F → x = (3, 34) ∨ x = (3, 35) ∨ x = (1, 1810)) (hx : exc w h r S K C M Z A P f st g0 z) (hm : memo (VV (fb_ct S 64) P f (TT w h S K Z P f) WW) (GG w h S) z') : exc w h r S K C M Z A P f st g0 z' := by
  have no : ∀ x, x ≠ (3, 34) → x ≠ (3, 35) → x ≠ (1, 1810) → x ∉ F := fun x a b c m => by
    rcases hF x m with e | e | e
    · exact a e
    · exact b e
    · exact c e
  obtain ⟨a, ⟨b1, b2, b3, b4⟩, c, ⟨⟨d1, d2, d3⟩, d4⟩, e, _, t, o⟩ := hx
  refine ⟨cnm_f g (no _ (by decide) (by decide) (by decide)) (no _ (by decide) (by decide) (by decide)) (no _ (by decide) (by decide) (by decide)) a, ⟨by rw [fr_fi g (no _ (by decide) (by decide) (by decide))]; exact b1, b2, b3, fun m hm hg i hi => by rw [fr_ai g (no _ (by decide) (by decide) (by decide))]; exact b4 m hm hg i hi⟩, exr_f g (no _ (by decide) (by decide) (by decide)) (no _ (by decide) (by decide) (by decide)) (no _ (by decide) (by decide) (by decide)) c, ⟨⟨by rw [fr_fi g (no _ (by decide) (by decide) (by decide))]; exact d1, fun p hp => by rw [fr_al g (no _ (by decide) (by decide) (by decide))]; exact d2 p hp, d3⟩, d4⟩, e, hm, by rw [fr_fl g (no _ (by decide) (by decide) (by decide))]; exact t, fun n0 i hi => by rw [fr_al g (no _ (by decide) (by decide) (by decide))]; exact o n0 i hi⟩
theorem l_divN {a b : Nat} (ha : a < 9223372036854775808) (hb : 0 < b) (hb2 : b < 9223372036854775808) : lN a / lN b = lN (a / b) := by
  have ta : (lN a).toInt = a := pk_lT (by omega)
  have tb : (lN b).toInt = b := pk_lT (by omega)
  have hq : a / b ≤ a := Nat.div_le_self a b
  have tc : (lN (a / b)).toInt = ((a / b : Nat) : Int) := pk_lT (by omega)
  refine l_inj ?_
  rw [Int64.toInt_div, ta, tb, tc, ← Int.ofNat_tdiv]
  clear ta tb tc
  generalize a / b = q at hq ⊢
  exact fb_bmodL (by omega) (by omega)
theorem l_i56 {m : Nat} (hm : m < 8) (hg : g0 < 2 ^ 8) {n : Nat} (hM : ∀ j, j < K → M j ≤ 8) : (((Int32.toInt64 (nI m)) <<< ((Int32.toInt64 (56 : Int32)) &&& 63)) ||| ((Int32.toInt64 (nI g0)) <<< ((Int32.toInt64 (24 : Int32)) &&& 63))) ||| lN (encN 0 0 (bndl K Z n 0 (mst K M)) 0) = lN (stm K M Z n g0 m) := by
  have b15 := bndl_15 (K := K) (Z := Z) (n := n) (c := 0) (mst_15 hM)
  have ll := lfs_lt b15
  have e1 : encN 0 0 (bndl K Z n 0 (mst K M)) 0 = 2 ^ 32 * lfs (bndl K Z n 0 (mst K M)) := by unfold encN; omega
  have e2 : stm K M Z n g0 m = 2 ^ 56 * m + (2 ^ 32 * lfs (bndl K Z n 0 (mst K M)) + 2 ^ 24 * g0) := by unfold stm encN; omega
  rw [show (56 : Int32) = nI 56 from rfl, show (24 : Int32) = nI 24 from rfl, i_to (a := m) (by omega), i_to (a := g0) (by omega), l_shlN (by omega), l_shlN (by omega), Int64.or_assoc, Int64.or_comm (lN (2 ^ 24 * g0)), e1, fb_or_sumL (k := 32) _ (by omega), fb_or_sumL (k := 56) _ (by omega), ← e2]
theorem sc_countUnlike (hd : jd w h false S) (hj : jc w h false S z) (hk : kdc K C M Z A z) (hs : shps K C Z A) (h24 : fb_ct S 64 ≤ 24) (hT : ∀ P f st g z', exc w h false S K C M Z A P f st g z' → exn (fb_ct S 64) P f K M < 2147483648) (hG : ∀ P f st g z', exc w h false S K C M Z A P f st g z' → GLp w h S P f) (hc : tq_fi z 1807 = tq_fi z 68 → tq_fi z 1808 = tq_fi z 1478 → ∃ P f st g, exc w h false S K C M Z A P f st g z ∧ (tq_fl z 1810 = -1 ∨ tq_fl z 1810 = lN (unl w h S P f K M))) (k1 : ∀ z' P f st g, fr FRf z z' → exc w h false S K C M Z A P f st g z' → tq_fi z' 1807 = tq_fi z' 68 → tq_fi z' 1808 = tq_fi z' 1478 → tq_fl z' 1810 = lN (unl w h S P f K M) → unl w h S P f K M < 2147483648 → Q (.inl (some (.long (lN (unl w h S P f K M))))) z') : wm_X4_countUnlike z Q := by
  have hK := hk.2.1
  have hM : ∀ j, j < K → M j ≤ 8 := fun j hj => (hk.2.2 j hj).2.1.2
  have hZ : ∀ k, k < K → 3 ≤ Z k := fun k hk' => (hk.2.2 k hk').2.2.1.2.1
  have ub : ∀ P f st g z', exc w h false S K C M Z A P f st g z' → unl w h S P f K M < 2147483648 := fun P f st g z' he => Nat.lt_of_le_of_lt (fb_ct_le _ _) (hT P f st g z' he)
  have fin : ∀ z1 P f st g, fr FRf z z1 → exc w h false S K C M Z A P f st g z1 → tq_fi z1 1807 = tq_fi z1 68 → tq_fi z1 1808 = tq_fi z1 1478 → (tq_fl z1 1810 = -1 ∨ tq_fl z1 1810 = lN (unl w h S P f K M)) → ((0 : Int64) ≤ tq_fl z1 1810 → wc_X4_countUnlike_80 Q z1) ∧ (¬ (0 : Int64) ≤ tq_fl z1 1810 → wc_X4_countUnlike_17 Q 0 0 z1) := by
    intro z1 P f st g0 f1 he c1 c2 c3
    have u := ub P f st g0 z1 he
    rcases c3 with c3 | c3
    rotate_left
    · rw [c3, show (0 : Int64) = lN 0 from rfl, pk_lLE (by omega) (by omega)]
      refine ⟨fun _ => ?_, fun n => absurd (Nat.zero_le _) n⟩
      unfold wc_X4_countUnlike_80
      rw [c3]
      exact k1 z1 P f st g0 f1 he c1 c2 c3 u
    rw [c3]
    refine ⟨fun n => absurd n (by decide +kernel), fun _ => ?_⟩
    have pl := prs_plg hd hs h24 hZ he.2.2.2.1
    have hkK : ∀ p, p < P → (f p).2.1 < K := fun p hp => (he.2.2.2.1.2 p hp).1
    have tg := TT_g (w := w) (h := h) (S := S) (K := K) pl h24
    obtain ⟨x1, ⟨x2, x3, x4, x5⟩, x6, x7, x8, x9, x10, x11⟩ := he
    have he : exc w h false S K C M Z A P f st g0 z1 := ⟨x1, ⟨x2, x3, x4, x5⟩, x6, x7, x8, x9, x10, x11⟩
    have kz : kdc K C M Z A z1 := kdc_f f1 (by decide) (by decide) (by decide) (by decide) (by decide) hk
    have su := uu_sum (K := K) (M := M) hd pl h24 (hG P f st g0 z1 he) x4 (F := fun j => @decide (∀ m, m < 8 → Vf w h S P f K M j m = true → j ≤ acN w h S P f K M m j) (Classical.propDecidable _)) (fun j hj => by rw [@decide_eq_true_iff _ (Classical.propDecidable _)])
    unfold wc_X4_countUnlike_17
    refine lp_inv (fun m s => ∃ z2, s = (lN (fb_sm (fun m => if grB w h false S m = true then fb_sm (fun j => fxv w h S P f m g0 (LL S P f K M j)) (exn (fb_ct S 64) P f K M) else 0) m), nI m, z2) ∧ fr FSe z1 z2 ∧ memo (VV (fb_ct S 64) P f (TT w h S K Z P f) WW) (GG w h S) z2) 8 ?_ ⟨z1, rfl, fr_r, x9⟩
    rintro m s hm ⟨z2, rfl, f2, m2⟩ B hB
    simp only
    unfold wb_X4_countUnlike_17
    rw [i_8, i_le (by omega) (by omega)]
    refine ⟨fun q => ?_, fun q => ?_⟩
    · have : m = 8 := by omega
      subst this
      rw [su]
      unfold wc_X4_countUnlike_71
      intro z3 e3
      rw [show (840 : Int64) = lN 840 from rfl, l_divN (by show 840 * unl w h S P f K M < _; omega) (by omega) (by omega), Nat.mul_div_cancel_left _ (by omega)] at e3
      have f3 : fr [(3, 34), (3, 35), (1, 1810)] z1 z3 := by
        rw [e3]
        exact fr_sfl (by decide) (fr_m (by decide) f2)
      have m3 : memo (VV (fb_ct S 64) P f (TT w h S K Z P f) WW) (GG w h S) z3 := fun s hs' => by
        have := m2 s hs'
        rw [e3]
        exact this
      have v3 : tq_fl z3 1810 = lN (unl w h S P f K M) := by rw [e3, rw_fle]; rfl
      unfold wc_X4_countUnlike_80
      rw [v3]
      exact k1 z3 P f st g0 (fr_t f1 (fr_m (by decide) f3)) (exc_k f3 (by decide) he m3) (by rw [fr_fi f3 (by decide), fr_fi f3 (by decide)]; exact c1) (by rw [fr_fi f3 (by decide), fr_fi f3 (by decide)]; exact c2) v3 u
    have m8 : m < 8 := by omega
    have nx : ∀ z3 v, fr FSe z1 z3 → memo (VV (fb_ct S 64) P f (TT w h S K Z P f) WW) (GG w h S) z3 → v = lN (fb_sm (fun m => if grB w h false S m = true then fb_sm (fun j => fxv w h S P f m g0 (LL S P f K M j)) (exn (fb_ct S 64) P f K M) else 0) (m + 1)) → wc_X4_countUnlike_65 (fun b1 b3 z => B (b1, b3, z)) Q v (nI m) z3 := by
      intro z3 v f3 m3 e3
      unfold wc_X4_countUnlike_65
      intro v2 e4
      rw [i_1, i_add] at e4
      subst e4
      subst e3
      exact hB m8 _ ⟨z3, rfl, f3, m3⟩
    have g2 : tq_fi z2 1806 = nI g0 := by rw [fr_fi f2 (by decide)]; exact x2
    rw [g2, i_utb (by omega) (by omega), x4]
    refine ⟨fun q2 => nx z2 _ f2 m2 (by rw [fb_sm_succ, if_neg (by rw [q2]; decide)]; rfl), fun q2 => ?_⟩
    have q2 : grB w h false S m = true := by simpa using q2
    have gm := (grB_g hd q2).2
    obtain ⟨v1, v2⟩ := VV_m (M := M) (g0 := g0) hd pl hkK hK hM h24 (by omega) m8 gm
    intro v101 e101
    have k2 := kdc_f f2 (by decide) (by decide) (by decide) (by decide) (by decide) kz
    refine sq_beginning k2 (by rw [fr_fi f2 (by decide)]; exact x1.1) h24 ⟨_, rfl, ?_⟩
    dsimp only
    rw [e101, l_i56 m8 (by omega) hM]
    refine sq_search x6 tg (exc_w hd kz x6 pl x5) 8 40 0 _ z2 _ (by omega) (by omega) v1 (by omega) f2 m2 (fun z3 f3 m3 => ⟨_, rfl, ?_⟩)
    intro v e
    refine nx z3 v f3 m3 ?_
    rw [e, v2, l_add, fb_sm_succ, if_pos q2]
  unfold wm_X4_countUnlike
  refine sq_refresh4 hd hj hk hs h24 (fun a b => ⟨rfl, ?_⟩) (fun z' P f st g f1 he c1 c2 c3 => ⟨rfl, fin z' P f st g f1 he c1 c2 (Or.inl c3)⟩)
  obtain ⟨P, f, st, g, he, c⟩ := hc a b
  exact fin z P f st g fr_r he a b c
theorem sc_unlike (hd : jd w h r S) (hj : jc w h r S z) (hk : kdc K C M Z A z) (hs : shps K C Z A) (hT : fb_ct S 64 ≤ 24 → ∀ P f st g z', exc w h r S K C M Z A P f st g z' → exn (fb_ct S 64) P f K M < 2147483648) (hG : fb_ct S 64 ≤ 24 → r = false → ∀ P f st g z', exc w h r S K C M Z A P f st g z' → GLp w h S P f) (hc : tq_fi z 1807 = tq_fi z 68 → tq_fi z 1808 = tq_fi z 1478 → ∃ P f st g, exc w h r S K C M Z A P f st g z ∧ (tq_fl z 1810 = -1 ∨ tq_fl z 1810 = lN (unl w h S P f K M))) (k0 : (24 < fb_ct S 64 ∨ r = true) → Q (.inr 4) z) (k1 : fb_ct S 64 ≤ 24 → r = false → ∀ z' P f st g, fr FRf z z' → exc w h r S K C M Z A P f st g z' → tq_fi z' 1807 = tq_fi z' 68 → tq_fi z' 1808 = tq_fi z' 1478 → tq_fl z' 1810 = lN (unl w h S P f K M) → unl w h S P f K M < 2147483648 → Q (.inl (some (.int (nI (unl w h S P f K M))))) z') : wm_X11_unlike z Q := by
  have b64 := fb_ct_le S 64
  unfold wm_X11_unlike
  refine sq_size hj ⟨_, rfl, ?_⟩
  dsimp only
  rw [show (24 : Int32) = nI 24 from rfl, i_lt (by omega) (by omega)]
  refine ⟨fun h24 => k0 (Or.inl h24), fun h24 => ⟨fun e => ?_, fun e => k0 (Or.inr ?_)⟩⟩
  · have rf : r = false := by
      rw [hj.2.2.1, bi_0] at e
      exact e
    subst rf
    refine sc_countUnlike hd hj hk hs (by omega) (hT (by omega)) (hG (by omega) rfl) hc (fun z' P f st g f1 he c1 c2 c3 c4 => ⟨_, rfl, ?_⟩)
    dsimp only
    rw [l_i32]
    exact k1 (by omega) rfl z' P f st g f1 he c1 c2 c3 c4
  · rw [hj.2.2.1, bi_n] at e
    exact e
end UNC
