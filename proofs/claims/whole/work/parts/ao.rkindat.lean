/-! ===== kindAt: the reference ===== -/
section RKA
variable {w h : Nat} {r : Bool} {S : Nat → Bool} {z : tq_S} {Q : tq_O → tq_S → Prop} {K P : Nat} {C M Z : Nat → Nat} {A : Nat → Int64} {f : Nat → plc}
theorem ct_is1 {X : Int64} {c : Nat} (hc : c < 64) : ((((Int64.toUInt64 X) >>> ((Int32.toInt64 (nI c)).toUInt64 &&& Int64.toUInt64 63)).toInt64 &&& (1 : Int64)) = 1) ↔ ct X c = true := by
  constructor
  · intro u
    cases q : ct X c
    · have := (ct_t1 hc).mpr q
      rw [this] at u
      exact absurd u (by decide +kernel)
    · rfl
  · intro u
    refine ct_ext fun b hb => ?_
    rw [ct_and1, ct_shr _ _ hc, Nat.add_zero, u, ct_1, Bool.and_true]
theorem sr_kindAt {a1 a2 a3 : Int32} {zc : tq_S} (hd : jd w h r S) (hj : jr w h r S z) (hk : rdc K C M A z) (hM : ∀ j, j < K → M j ≤ 8) (hZ : ∀ k, k < K → 3 ≤ Z k) (hs : shps K C Z A) (hp : fb_ct S 64 ≤ 24 → prs w h r S K C A P f zc) (hcd : fb_ct S 64 ≤ 24 → ∀ fst k i part, fst < fb_ct S 64 → k < K → cdn w r S C A P f fst k i part) (hT : fb_ct S 64 ≤ 24 → exn (fb_ct S 64) P f K M < 2147483648) (k0 : 24 < fb_ct S 64 → ∀ z', fr [(0, 3264)] z z' → tq_fi z' 3264 = 1 → Q (.inl (some (.int 0))) z') (k1 : fb_ct S 64 ≤ 24 → (∀ j, j < exn (fb_ct S 64) P f K M → a1 ≠ nI j) → ∀ z', fr ((0, 3264) :: FSd) z z' → tq_fi z' 3264 = 2 → Q (.inl (some (.int 0))) z') (k2 : fb_ct S 64 ≤ 24 → (∃ j, j < exn (fb_ct S 64) P f K M ∧ a1 = nI j) → ho w h S a2 a3 = false → ∀ z', fr ((0, 3264) :: FSd) z z' → tq_fi z' 3264 = 3 → Q (.inl (some (.int 0))) z') (k3 : fb_ct S 64 ≤ 24 → ∀ z' j x y k, fr ((0, 3264) :: FSd) z z' → tq_fi z' 3264 = 0 → j < exn (fb_ct S 64) P f K M → a1 = nI j → a2 = nI x → a3 = nI y → x < w → y < h → S (8 * y + x) = true → kat S P f K M j (8 * y + x) k → Q (.inl (some (.int (nI k)))) z') : wm_X12_kindAt a1 a2 a3 z Q := by
  have hw1 := hd.1
  have hw8 := hd.2.1
  have hh1 := hd.2.2.1
  have hh8 := hd.2.2.2.1
  unfold wm_X12_kindAt
  refine sq_isMuch hj (fun h24 z1 f1 e1 => ⟨_, rfl, fun _ => ?_, fun u => absurd rfl u⟩) (fun u z1 f1 e1 => ⟨_, rfl, fun q => absurd q (by decide +kernel), fun _ => k0 u z1 f1 e1⟩)
  have j1 := jr_f f1 (by decide) (by decide) (by decide) (by decide) hj
  have rk1 := rdc_f f1 (by decide) (by decide) (by decide) (by decide) hk
  have tb := hT h24
  have pl := prs_plg hd hs h24 hZ (hp h24)
  have no : ∀ z2, fr ((0, 3264) :: FSd) z z2 → (∀ j, j < exn (fb_ct S 64) P f K M → a1 ≠ nI j) → wc_X12_kindAt_23 Q a2 a3 z2 := by
    intro z2 f2 hn
    unfold wc_X12_kindAt_23 wc_X12_kindAt_28
    exact sq_isThrown (b := true) (a := 2) (fun z3 f3 e3 => ⟨_, rfl, fun _ => k1 h24 hn z3 (fr_t f2 (fr_m (by decide) f3)) e3, fun q => absurd q (by decide +kernel)⟩)
  refine ⟨fun u => no z1 (fr_m (by decide) f1) (fun j hj2 e => ?_), fun u => ?_⟩
  · rw [e, show (0 : Int32) = nI 0 from rfl, i_lt (by omega) (by omega)] at u
    exact absurd u (Nat.not_lt_zero _)
  obtain ⟨V, Vb, rfl⟩ := i_ex u
  refine sq_searched (Md := some V) (Z := Z) hd j1 rk1 hM hZ hs h24 (hp h24) (hcd h24) ⟨rfl, Vb, by omega⟩ (fun z2 P' f' f2 r2 ep rf e2 => ⟨_, rfl, ?_⟩)
  subst ep
  have f02 : fr ((0, 3264) :: FSd) z z2 := fr_t (fr_m (by decide) f1) (fr_m (by decide) f2)
  have e64 : tq_fi z2 3264 = 0 := by rw [fr_fi f2 (by decide)]; exact e1
  rcases e2 with ⟨n1, n2⟩ | ⟨n1, n2, n3, n4⟩
  · rw [n2, i_lt Vb (by omega)]
    refine ⟨fun q => absurd q (by omega), fun _ => no z2 f02 (fun j hj2 e => ?_)⟩
    rw [i_eq Vb (by omega)] at e
    omega
  · rw [n3, i_lt Vb (by omega)]
    refine ⟨fun _ => ?_, fun q => absurd (Nat.lt_succ_self V) q⟩
    unfold wc_X12_kindAt_28
    refine sq_isThrown (b := false) (a := 2) (fun z3 f3 e3 => ⟨_, rfl, fun q => absurd rfl q, fun _ => ?_⟩)
    have f03 := fr_t f02 (fr_m (G := (0, 3264) :: FSd) (by decide) f3)
    have j3 := jr_f f03 (by decide) (by decide) (by decide) (by decide) hj
    refine sq_isCell hw1 hw8 hh1 hh8 j3 ⟨_, rfl, fun q => ?_, fun q => ?_⟩
    rotate_left
    · rw [bi_0] at q
      unfold wc_X12_kindAt_55
      exact sq_isThrown (b := true) (a := 3) (fun z4 f4 e4 => ⟨_, rfl, fun q2 => absurd q2 (by decide +kernel), fun _ => k2 h24 ⟨V, n1, rfl⟩ q z4 (fr_t f03 (fr_m (by decide) f4)) e4⟩)
    · rw [bi_n] at q
      obtain ⟨x, y, rfl, rfl, xw, yh, sS⟩ := ho_t hw8 hh8 q
      unfold wc_X12_kindAt_55
      refine sq_isThrown (b := false) (a := 3) (fun z4 f4 e4 => ⟨_, rfl, fun _ => ?_, fun q2 => absurd rfl q2⟩)
      have f04 := fr_t f03 (fr_m (G := (0, 3264) :: FSd) (by decide) f4)
      have z2_4 : fr [(0, 3264)] z2 z4 := fr_t f3 f4
      obtain ⟨o1, o2, o3⟩ := pth_one (P := P) (f := f) h24 (fun p hp' => ⟨(pl.1 p hp').2.2.2.2.2, (pl.1 p hp').2.1⟩) 8 0 (mst K M) V (Nat.two_pow_pos _) (by omega) n1
      have lt := ct_in (p := S) (i := 8 * y + x) (n := 64) (by omega) sS
      obtain ⟨kx, q1, q2, q3⟩ := o2 (fb_ct S (8 * y + x)) lt (Nat.zero_testBit _)
      obtain ⟨n5, n6⟩ := n4
      have r4 := rrow_f z2_4 (by decide) (by decide) (by decide) (by decide) r2
      have P12 := src_le hd (fun k hk' => (hk.2.2 k hk').1.2) hk.2.1 hs h24 (hp h24).2 (prs_ne hd (hp h24))
      have last := k3 h24 z4 V x y _ f04 e4 n1 rfl rfl rfl xw yh sS ⟨kx, q1, q2, q3, rfl⟩
      generalize pth (fb_ct S 64) P f 8 0 (mst K M) V = L at n5 n6 o1 o2 o3 q1 q2 q3 last
      rw [Nat.zero_add] at n5
      unfold wc_X12_kindAt_70
      refine lp_inv (fun k s => s = (nI (if kx < k then (f (L.getD kx 0)).2.1 else 0), nI k, z4)) L.length ?_ (by rw [if_neg (Nat.not_lt_zero _)]; rfl)
      rintro k s hk' rfl B hB
      simp only
      unfold wb_X12_kindAt_70
      rw [fr_fi z2_4 (by decide), n5, i_le (by omega) (by omega)]
      refine ⟨fun u2 => ?_, fun u2 => ?_⟩
      · rw [if_pos (by omega)]
        exact last
      have kl : k < L.length := by omega
      obtain ⟨lk, _⟩ := o1 k kl
      have a75 : tq_ai z4 75 k = nI (L.getD k 0) := by
        rw [fr_ai z2_4 (by decide), n6 k (by omega), if_neg (Nat.not_lt_zero _), Nat.sub_zero]
      obtain ⟨ra, rb, rc⟩ := r4.2.1 _ lk
      obtain ⟨s1, s2, s3⟩ := rf _ lk
      rw [i_cl (by omega), a75, i_cl (by omega), show (8 : Int32) * nI y + nI x = nI (8 * y + x) by rw [i_8, pk_mul, i_add], ct_is1 (by omega), ra _ (by omega), sS, Bool.true_and, ← s3]
      have nx : ∀ v : Int32, v = nI (if kx < k + 1 then (f (L.getD kx 0)).2.1 else 0) → wc_X12_kindAt_122 (fun b5 b6 z => B (b5, b6, z)) Q (nI x) (nI y) (nI k) v z4 := by
        intro v ev
        unfold wc_X12_kindAt_122
        intro v2 ev2
        rw [i_1, i_add] at ev2
        subst ev2
        exact hB kl _ (by rw [ev])
      refine ⟨i_in (by omega) (by omega), i_in (by omega) (by omega), fun u3 => nx _ ?_, fun u3 => ⟨i_in (by omega) (by omega), i_in (by omega) (by omega), nx _ ?_⟩⟩
      · have ne : k ≠ kx := fun e => u3 (by rw [e]; exact q2)
        by_cases u4 : kx < k
        · rw [if_pos u4, if_pos (by omega)]
        · rw [if_neg u4, if_neg (by omega)]
      · have e := q3 k kl u3
        rw [rb, ← s2, e, if_pos (by omega)]
end RKA
