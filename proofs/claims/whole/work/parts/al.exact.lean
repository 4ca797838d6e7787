/-! ===== exact: the calls ===== -/
section EXA
variable {w h : Nat} {r : Bool} {S : Nat → Bool} {z : tq_S} {Q : tq_O → tq_S → Prop} {K P : Nat} {C M Z : Nat → Nat} {A : Nat → Int64} {f : Nat → plc} {st : Nat → Nat} {g0 : Nat}
/-- how many exact covers there are -/
def exn (n P : Nat) (f : Nat → plc) (K : Nat) (M : Nat → Nat) : Nat := cnx n P f 8 0 (mst K M)
theorem bg_min (hM : ∀ j, j < K → M j ≤ 8) (hK : K ≤ 6) : ∀ k, k < K → min (dcl (bgE K M Z (fb_ct S 64)) k) (rmF Z (fb_ct S 64) (bgE K M Z (fb_ct S 64) % 2 ^ 24) k) = min (mst K M k) (rmF Z (fb_ct S 64) (bgE K M Z (fb_ct S 64) % 2 ^ 24) k) := fun k hk => by
  obtain ⟨b1, b2, b3, b4⟩ := bg_ok (w := 0) (h := 0) (S := S) (Z := Z) hM
  have b15 := bndl_15 (K := K) (Z := Z) (n := fb_ct S 64) (c := 0) (mst_15 hM)
  have dk : dcl (bgE K M Z (fb_ct S 64)) k = bndl K Z (fb_ct S 64) 0 (mst K M) k := encN_l (by omega) (by omega) b15 (by omega)
  rw [dk, b2]
  unfold bndl
  rw [if_pos hk]
  omega
theorem VV_bg (hpl : plg S Z P f) (hkK : ∀ p, p < P → (f p).2.1 < K) (hK : K ≤ 6) (hM : ∀ j, j < K → M j ≤ 8) (hn : fb_ct S 64 ≤ 24) : VV (fb_ct S 64) P f (TT w h S K Z P f) WW (bgE K M Z (fb_ct S 64)) = exn (fb_ct S 64) P f K M := by
  obtain ⟨b1, b2, b3, b4⟩ := bg_ok (w := w) (h := h) (S := S) (K := K) (Z := Z) hM
  have := cnx_sr (w := w) (h := h) hpl hkK hK hn 8 (bgE K M Z (fb_ct S 64)) (mst K M) b1 b4 b3 (bg_min hM hK)
  rw [b2] at this
  exact this
theorem sc_exact (hd : jd w h r S) (hj : jc w h r S z) (hk : kdc K C M Z A z) (hs : shps K C Z A) (hc : tq_fi z 1807 = tq_fi z 68 → tq_fi z 1808 = tq_fi z 1478 → ∃ P f st g, exc w h r S K C M Z A P f st g z) (k0 : 24 < fb_ct S 64 → Q (.inr 4) z) (k1 : fb_ct S 64 ≤ 24 → ∀ z' P f st g, fr FRf z z' → exc w h r S K C M Z A P f st g z' → tq_fi z' 1807 = tq_fi z' 68 → tq_fi z' 1808 = tq_fi z' 1478 → (z' = z ∨ tq_fl z' 1810 = -1) → Q (.inl (some (.int (nI (exn (fb_ct S 64) P f K M))))) z') : wm_X11_exact z Q := by
  have hM : ∀ j, j < K → M j ≤ 8 := fun j hj => (hk.2.2 j hj).2.1.2
  have hZ : ∀ k, k < K → 3 ≤ Z k := fun k hk' => (hk.2.2 k hk').2.2.1.2.1
  have b64 := fb_ct_le S 64
  unfold wm_X11_exact
  refine sq_size hj ⟨_, rfl, ?_⟩
  dsimp only
  rw [show (24 : Int32) = nI 24 from rfl, i_le (by omega) (by omega)]
  refine ⟨fun h24 => ?_, fun h24 => k0 (by omega)⟩
  have fin : ∀ z' P f st g, fr FRf z z' → exc w h r S K C M Z A P f st g z' → tq_fi z' 1807 = tq_fi z' 68 → tq_fi z' 1808 = tq_fi z' 1478 → (z' = z ∨ tq_fl z' 1810 = -1) → Q (.inl (some (.int (Int64.toInt32 (tq_fl z' 1809))))) z' := by
    intro z' P f st g f1 he c1 c2 c3
    have pl := prs_plg hd hs h24 hZ he.2.2.2.1
    have := k1 h24 z' P f st g f1 he c1 c2 c3
    rw [he.2.2.2.2.2.2.1, l_i32, VV_bg pl (fun p hp => (he.2.2.2.1.2 p hp).1) hk.2.1 hM h24]
    exact this
  refine sq_refresh4 hd hj hk hs h24 (fun a b => ⟨rfl, ?_⟩) (fun z' P f st g f1 he c1 c2 c3 => ⟨rfl, fin z' P f st g f1 he c1 c2 (Or.inr c3)⟩)
  obtain ⟨P, f, st, g, he⟩ := hc a b
  exact fin z P f st g fr_r he a b (Or.inl rfl)
/-- what the search of the reference tells -/
def FSd : List (Nat × Nat) := FTp ++ FSr ++ [(0, 3300), (0, 3301)]
theorem sq_searched {Md : Option Nat} {zc : tq_S} {a1 : Int32} (hd : jd w h r S) (hj : jr w h r S z) (hk : rdc K C M A z) (hM : ∀ j, j < K → M j ≤ 8) (hZ : ∀ k, k < K → 3 ≤ Z k) (hs : shps K C Z A) (h24 : fb_ct S 64 ≤ 24) (hp : prs w h r S K C A P f zc) (hcd : ∀ fst k i part, fst < fb_ct S 64 → k < K → cdn w r S C A P f fst k i part) (hMd : match Md with | none => a1 = -1 | some V => a1 = nI V ∧ V < 2147483648 ∧ (V + 1 < 2147483648 ∨ exn (fb_ct S 64) P f K M ≤ V)) (kk : ∀ z' P' f', fr FSd z z' → rrow S P' f' z' → P = P' → (∀ p, p < P → (f p).1 = (f' p).1 ∧ (f p).2.1 = (f' p).2.1 ∧ (f p).2.2.1 = (f' p).2.2.1) → (match Md with | none => tq_fi z' 3299 = nI (exn (fb_ct S 64) P f K M) | some V => (exn (fb_ct S 64) P f K M ≤ V ∧ tq_fi z' 3299 = nI (exn (fb_ct S 64) P f K M)) ∨ (V < exn (fb_ct S 64) P f K M ∧ V + 1 < 2147483648 ∧ tq_fi z' 3299 = nI (V + 1) ∧ fnd 0 (fun _ => 0) (pth (fb_ct S 64) P f 8 0 (mst K M) V) z')) → Q (.inl (some (.int (tq_fi z' 3299)))) z') : wm_X12_searched a1 0 z Q := by
  unfold wm_X12_searched
  refine sq_tellPlaces hd hj hk hs h24 (fun z1 P' f' f1 r1 s1 d1 b1 m1 l1 => ⟨rfl, fun z2 e2 z3 e3 => ⟨Or.inl rfl, fun z4 e4 z5 e5 => ?_⟩⟩)
  obtain ⟨rp, rf⟩ := rows_same hd hs hp hcd r1 s1 d1
  subst rp
  have f15 : fr [(0, 3299), (0, 3300), (0, 3301), (0, 3303)] z1 z5 := by
    rw [e5]
    refine fr_sfi (by decide) ?_
    rw [e4]
    refine fr_sfi (by decide) ?_
    rw [e3]
    refine fr_sfi (by decide) ?_
    rw [e2]; exact fr_sfi (by decide) fr_r
  have f5 : fr FSd z z5 := fr_t (fr_m (by decide) f1) (fr_m (by decide) f15)
  have r5 := rrow_f f15 (by decide) (by decide) (by decide) (by decide) r1
  have x99 : tq_fi z5 3299 = nI 0 := by rw [e5, e4, e3, e2]; rfl
  have x00 : tq_fi z5 3300 = a1 := by rw [e5, e4, e3]; rfl
  have x01 : tq_fi z5 3301 = 0 := by rw [e5, e4]; rfl
  have x03 : tq_fi z5 3303 = nI 0 := by rw [e5]; rfl
  have cs : cnx (fb_ct S 64) P f' 8 0 (mst K M) = exn (fb_ct S 64) P f K M := (cnx_c rf 8 0 (mst K M)).symm
  have x15 := mst_15 hM
  have pl := prs_plg hd hs h24 hZ hp
  have board : rst S 0 (tq_fl z5 3306) := fun j hj => by
    rw [fr_fl f15 (by decide), b1 j hj, Nat.zero_testBit]; simp
  refine sq_rsearch (Md := Md) (K := K) (z := z5) h24 l1 r5 (fun p hp => (s1 p hp).1) hk.2.1 (fun p hp' => ?_) x01 ?_ 8 40 0 0 0 (mst K M) (fun _ => 0) _ z5 _ (by omega) fr_r (Nat.two_pow_pos _) (Nat.zero_le _) (by omega) board ⟨fun k hk' => ⟨?_, ?_⟩, x03, fun j hj => absurd hj (Nat.not_lt_zero _), x99⟩ (fun V hV => ?_) (fun z6 f6 d6 e6 p6 a6 => ⟨rfl, ?_⟩)
  · rw [← (rf p hp').2.2]
    exact (pl.1 p hp').2.2.2.2.2
  · cases Md with
    | none => show tq_fi z5 3300 = -1; rw [x00]; exact hMd
    | some V => exact ⟨by rw [x00]; exact hMd.1, hMd.2.1⟩
  · rw [fr_ai f15 (by decide), m1 k hk']
    unfold mst
    rw [if_pos hk']
  · have := hk.2.1
    exact x15 k (by omega)
  · subst hV
    refine ⟨Nat.zero_le _, ?_⟩
    rw [Nat.zero_add, cs]
    exact hMd.2.2
  · have r6 := rrow_f f6 (by decide) (by decide) (by decide) (by decide) r5
    refine kk z6 P f' (fr_t f5 (fr_m (by decide) f6)) r6 rfl rf ?_
    rw [cs] at a6
    cases Md with
    | none =>
      have a6 : tq_fi z6 3299 = nI (0 + exn (fb_ct S 64) P f K M) := a6
      rw [Nat.zero_add] at a6
      exact a6
    | some V =>
      rcases a6 with ⟨n1, n2, _, _⟩ | ⟨n1, n2, n3, n4⟩
      · rw [Nat.zero_add] at n1 n2
        exact Or.inl ⟨n1, n2⟩
      · rw [Nat.zero_add] at n1
        refine Or.inr ⟨n1, n2, n3, ?_⟩
        rw [Nat.sub_zero] at n4
        have := pth_c rf 8 0 (mst K M) V n1
        rw [this]; exact n4
theorem sq_isMuch (hj : jr w h r S z) (k0 : fb_ct S 64 ≤ 24 → ∀ z', fr [(0, 3264)] z z' → tq_fi z' 3264 = 0 → Q (.inl (some (.int 0))) z') (k1 : 24 < fb_ct S 64 → ∀ z', fr [(0, 3264)] z z' → tq_fi z' 3264 = 1 → Q (.inl (some (.int (nI 1)))) z') : wm_X12_isMuch z Q := by
  have b64 := fb_ct_le S 64
  unfold wm_X12_isMuch
  refine sq_many hj ⟨_, rfl, ?_⟩
  dsimp only
  rw [show (24 : Int32) = nI 24 from rfl, i_le (by omega) (by omega)]
  refine ⟨fun u => ?_, fun u => ?_⟩
  · unfold wc_X12_isMuch_15
    exact sq_isThrown (b := false) (a := 1) (fun z1 f1 e1 => ⟨_, rfl, bi_z, k0 u z1 f1 e1⟩)
  · unfold wc_X12_isMuch_15
    exact sq_isThrown (b := true) (a := 1) (fun z1 f1 e1 => ⟨_, rfl, bi_z, k1 (by omega) z1 f1 e1⟩)
theorem sr_exact {zc : tq_S} (hd : jd w h r S) (hj : jr w h r S z) (hk : rdc K C M A z) (hM : ∀ j, j < K → M j ≤ 8) (hZ : ∀ k, k < K → 3 ≤ Z k) (hs : shps K C Z A) (hp : fb_ct S 64 ≤ 24 → prs w h r S K C A P f zc) (hcd : fb_ct S 64 ≤ 24 → ∀ fst k i part, fst < fb_ct S 64 → k < K → cdn w r S C A P f fst k i part) (k0 : 24 < fb_ct S 64 → ∀ z', fr [(0, 3264)] z z' → tq_fi z' 3264 = 1 → Q (.inl (some (.int 0))) z') (k1 : fb_ct S 64 ≤ 24 → ∀ z', fr ((0, 3264) :: FSd) z z' → tq_fi z' 3264 = 0 → Q (.inl (some (.int (nI (exn (fb_ct S 64) P f K M))))) z') : wm_X12_exact z Q := by
  unfold wm_X12_exact
  refine sq_isMuch hj (fun h24 z1 f1 e1 => ⟨_, rfl, fun _ => ?_, fun u => absurd rfl u⟩) (fun u z1 f1 e1 => ⟨_, rfl, fun q => absurd q (by decide +kernel), fun _ => k0 u z1 f1 e1⟩)
  have j1 := jr_f f1 (by decide) (by decide) (by decide) (by decide) hj
  have rk1 := rdc_f f1 (by decide) (by decide) (by decide) (by decide) hk
  refine sq_searched (Md := none) (Z := Z) hd j1 rk1 hM hZ hs h24 (hp h24) (hcd h24) rfl (fun z2 P' f' f2 r2 ep rf e2 => ⟨_, rfl, ?_⟩)
  have e2 : tq_fi z2 3299 = nI (exn (fb_ct S 64) P f K M) := e2
  rw [e2]
  exact k1 h24 z2 (fr_t (fr_m (by decide) f1) (fr_m (by decide) f2)) (by rw [fr_fi f2 (by decide)]; exact e1)
end EXA
