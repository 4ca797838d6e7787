/-! ===== unlike: the reference's call ===== -/
section RUL
variable {w h : Nat} {r : Bool} {S : Nat → Bool} {z : tq_S} {Q : tq_O → tq_S → Prop} {K P : Nat} {C M Z : Nat → Nat} {A : Nat → Int64} {f f' : Nat → plc}
theorem plg_c (hpl : plg S Z P f) (hr : rrow S P f' z) (rf : ∀ p, p < P → (f p).1 = (f' p).1 ∧ (f p).2.1 = (f' p).2.1 ∧ (f p).2.2.1 = (f' p).2.2.1) : plg S Z P f' := by
  refine ⟨fun p hp => ?_, fun p p' hp hp' e1 e2 => ?_⟩
  · obtain ⟨⟨a1, a2, a3, _⟩, b, c, d, e, g⟩ := hpl.1 p hp
    obtain ⟨r1, r2, r3⟩ := rf p hp
    have z0 := (hr.2.2.1 p hp).2.2.2.2.2
    rw [← r1, ← r2, ← r3]
    refine ⟨⟨by rw [← r1]; exact a1, by rw [← r2]; exact a2, by rw [← r3]; exact a3, by rw [z0]; omega⟩, b, c, d, e, g⟩
  · obtain ⟨r1, r2, r3⟩ := rf p hp
    obtain ⟨s1, s2, s3⟩ := rf p' hp'
    exact hpl.2 p p' hp hp' (by rw [r2, s2]; exact e1) (by rw [r3, s3]; exact e2)
theorem imP_c (rf : ∀ p, p < P → (f p).1 = (f' p).1 ∧ (f p).2.1 = (f' p).2.1 ∧ (f p).2.2.1 = (f' p).2.2.1) {m a q : Nat} (ha : a < P) : imP w h S P f m a q ↔ imP w h S P f' m a q := by
  unfold imP
  obtain ⟨r1, r2, r3⟩ := rf a ha
  rw [r2, r3]
  constructor
  · rintro ⟨a1, a2, a3⟩
    obtain ⟨s1, s2, s3⟩ := rf q a1
    exact ⟨a1, by rw [← s2]; exact a2, by rw [← s3]; exact a3⟩
  · rintro ⟨a1, a2, a3⟩
    obtain ⟨s1, s2, s3⟩ := rf q a1
    exact ⟨a1, by rw [s2]; exact a2, by rw [s3]; exact a3⟩
theorem unl_c (hd : jd w h false S) (hn : fb_ct S 64 ≤ 24) (hpl : plg S Z P f) (hpl' : plg S Z P f') (rf : ∀ p, p < P → (f p).1 = (f' p).1 ∧ (f p).2.1 = (f' p).2.1 ∧ (f p).2.2.1 = (f' p).2.2.1) : exn (fb_ct S 64) P f K M = exn (fb_ct S 64) P f' K M ∧ fb_ct (fun j => fsB w h S P f' K M j) (exn (fb_ct S 64) P f' K M) = unl w h S P f K M := by
  have en : exn (fb_ct S 64) P f K M = exn (fb_ct S 64) P f' K M := cnx_c rf 8 0 (mst K M)
  refine ⟨en, ?_⟩
  unfold unl
  rw [← en]
  refine fb_ct_cong fun j hj => ?_
  have hj' : j < exn (fb_ct S 64) P f' K M := by rw [← en]; exact hj
  have ll : ∀ j, j < exn (fb_ct S 64) P f K M → LL S P f K M j = LL S P f' K M j := fun j hj => pth_c rf 8 0 (mst K M) j hj
  have vf : ∀ m, Vf w h S P f K M j m = true ↔ Vf w h S P f' K M j m = true := fun m => by
    rw [Vf_t, Vf_t, ll j hj]
    constructor
    · rintro ⟨a, b⟩
      refine ⟨a, fun x mx => ?_⟩
      obtain ⟨q, hq⟩ := b x mx
      exact ⟨q, (imP_c rf (LL_P hpl' hn hj' mx)).mp hq⟩
    · rintro ⟨a, b⟩
      refine ⟨a, fun x mx => ?_⟩
      obtain ⟨q, hq⟩ := b x mx
      exact ⟨q, (imP_c rf (LL_P hpl' hn hj' mx)).mpr hq⟩
  have ac : ∀ m, m < 8 → Vf w h S P f K M j m = true → acN w h S P f K M m j = acN w h S P f' K M m j := fun m hm hv => by
    obtain ⟨a1, a2⟩ := im_cmp hd hpl hn hj hm hv
    obtain ⟨b1, b2⟩ := im_cmp hd hpl' hn hj' hm ((vf m).mp hv)
    rw [← en] at b1
    refine LL_inj hpl hn a1 b1 (fun q => ?_)
    rw [a2, ll _ b1, b2, ll j hj]
    constructor
    · rintro ⟨a, ma, e⟩
      exact ⟨a, ma, (imP_c rf (LL_P hpl' hn hj' ma)).mp e⟩
    · rintro ⟨a, ma, e⟩
      exact ⟨a, ma, (imP_c rf (LL_P hpl' hn hj' ma)).mpr e⟩
  have iff : fsA w h S P f' K M j ↔ fsA w h S P f K M j := by
    constructor
    · intro u m hm hv
      rw [ac m hm hv]
      exact u m hm ((vf m).mp hv)
    · intro u m hm hv
      have hv := (vf m).mpr hv
      rw [← ac m hm hv]
      exact u m hm hv
  unfold fsB
  by_cases u : fsA w h S P f K M j
  · exact (@decide_eq_true _ (Classical.propDecidable _) (iff.mpr u)).trans (@decide_eq_true _ (Classical.propDecidable _) u).symm
  · exact (@decide_eq_false _ (Classical.propDecidable _) (fun e => u (iff.mp e))).trans (@decide_eq_false _ (Classical.propDecidable _) u).symm
def FSv : List (Nat × Nat) := FTp ++ FSu ++ [(0, 3300), (0, 3301)]
theorem sq_searchedU {zc : tq_S} (hd : jd w h false S) (hj : jr w h false S z) (hk : rdc K C M A z) (hM : ∀ j, j < K → M j ≤ 8) (hZ : ∀ k, k < K → 3 ≤ Z k) (hs : shps K C Z A) (h24 : fb_ct S 64 ≤ 24) (hp : prs w h false S K C A P f zc) (hcd : ∀ fst k i part, fst < fb_ct S 64 → k < K → cdn w false S C A P f fst k i part) (kk : ∀ z', fr FSv z z' → Q (.inl (some (.int (nI (unl w h S P f K M))))) z') : wm_X12_searched (-1) 1 z Q := by
  unfold wm_X12_searched
  refine sq_tellPlaces hd hj hk hs h24 (fun z1 P' f' f1 r1 s1 d1 b1 m1 l1 => ⟨rfl, fun z2 e2 z3 e3 => ⟨Or.inr rfl, fun z4 e4 z5 e5 => ?_⟩⟩)
  obtain ⟨rp, rf⟩ := rows_same hd hs hp hcd r1 s1 d1
  subst rp
  have f15 : fr [(0, 3299), (0, 3300), (0, 3301), (0, 3303)] z1 z5 := by
    rw [e5]
    refine fr_sfi (by decide) ?_
    rw [e4]
    refine fr_sfi (by decide) ?_
    rw [e3]
    refine fr_sfi (by decide) ?_
    rw [e2]; exact fr_sfi (by decide) fr_r
  have f5 : fr FSv z z5 := fr_t (fr_m (by decide) f1) (fr_m (by decide) f15)
  have r5 := rrow_f f15 (by decide) (by decide) (by decide) (by decide) r1
  have x99 : tq_fi z5 3299 = nI 0 := by rw [e5, e4, e3, e2]; rfl
  have x00 : tq_fi z5 3300 = -1 := by rw [e5, e4, e3]; rfl
  have x01 : tq_fi z5 3301 = 1 := by rw [e5, e4]; rfl
  have x03 : tq_fi z5 3303 = nI 0 := by rw [e5]; rfl
  have x15 := mst_15 hM
  have pl := prs_plg hd hs h24 hZ hp
  have pl' := plg_c pl r1 rf
  obtain ⟨en, uc⟩ := unl_c (K := K) (M := M) hd h24 pl pl' rf
  have board : rst S 0 (tq_fl z5 3306) := fun j hj => by
    rw [fr_fl f15 (by decide), b1 j hj, Nat.zero_testBit]; simp
  refine sq_usearch (K := K) (M := M) (z := z5) hd (jr_f f5 (by decide) (by decide) (by decide) (by decide) hj) pl' h24 l1 r5 (fun c hc => by rw [fr_fl f15 (by decide)]; exact b1 c hc) (fun p hp => (s1 p hp).1) hk.2.1 x01 x00 8 40 0 0 0 0 (mst K M) (fun _ => 0) [] _ z5 _ (by omega) fr_r (Nat.two_pow_pos _) (Nat.zero_le _) (by omega) board ⟨fun k hk' => ⟨?_, ?_⟩, x03, fun j hj => absurd hj (Nat.not_lt_zero _), x99⟩ ⟨rfl, fun k hk => absurd hk (Nat.not_lt_zero _)⟩ (fun jj hjj => ?_) (fun z6 f6 d6 e6 p6 a6 => ⟨rfl, ?_⟩)
  · rw [fr_ai f15 (by decide), m1 k hk']
    unfold mst
    rw [if_pos hk']
  · have := hk.2.1
    exact x15 k (by omega)
  · rw [Nat.zero_add]
    exact ⟨hjj, rfl⟩
  · have ct : fb_ct (fun jj => fsB w h S P f' K M (0 + jj)) (cnx (fb_ct S 64) P f' 8 0 (mst K M)) = unl w h S P f K M := by
      rw [← uc]
      exact fb_ct_cong fun j _ => by rw [Nat.zero_add]
    rw [Nat.zero_add, ct] at a6
    dsimp only
    rw [a6]
    exact kk z6 (fr_t f5 (fr_m (by decide) f6))
theorem sr_unlike {zc : tq_S} (hd : jd w h r S) (hj : jr w h r S z) (hk : rdc K C M A z) (hM : ∀ j, j < K → M j ≤ 8) (hZ : ∀ k, k < K → 3 ≤ Z k) (hs : shps K C Z A) (hp : fb_ct S 64 ≤ 24 → prs w h r S K C A P f zc) (hcd : fb_ct S 64 ≤ 24 → ∀ fst k i part, fst < fb_ct S 64 → k < K → cdn w r S C A P f fst k i part) (k0 : (24 < fb_ct S 64 ∨ r = true) → ∀ z', fr [(0, 3264)] z z' → tq_fi z' 3264 = 1 → Q (.inl (some (.int 0))) z') (k1 : fb_ct S 64 ≤ 24 → r = false → ∀ z', fr ((0, 3264) :: FSv) z z' → tq_fi z' 3264 = 0 → Q (.inl (some (.int (nI (unl w h S P f K M))))) z') : wm_X12_unlike z Q := by
  have b64 := fb_ct_le S 64
  have bad : (24 < fb_ct S 64 ∨ r = true) → wc_X12_unlike_17 Q z := fun u => by
    unfold wc_X12_unlike_17 wc_X12_unlike_22
    exact sq_isThrown (b := true) (a := 1) (fun z1 f1 e1 => ⟨_, rfl, fun q => absurd q (by decide +kernel), fun _ => k0 u z1 f1 e1⟩)
  unfold wm_X12_unlike
  refine sq_many hj ⟨_, rfl, ?_⟩
  dsimp only
  rw [show (24 : Int32) = nI 24 from rfl, i_lt (by omega) (by omega), hj.1.2.2]
  refine ⟨fun u => bad (Or.inl u), fun u => ⟨fun e => ?_, fun e => bad (Or.inr ?_)⟩⟩
  · have rf : r = false := by
      cases r
      · rfl
      · exact absurd e (by decide +kernel)
    subst rf
    unfold wc_X12_unlike_22
    refine sq_isThrown (b := false) (a := 1) (fun z1 f1 e1 => ⟨_, rfl, fun _ => ?_, fun q => absurd rfl q⟩)
    have j1 := jr_f f1 (by decide) (by decide) (by decide) (by decide) hj
    have rk1 := rdc_f f1 (by decide) (by decide) (by decide) (by decide) hk
    refine sq_searchedU (Z := Z) (zc := zc) hd j1 rk1 hM hZ hs (by omega) (hp (by omega)) (hcd (by omega)) (fun z2 f2 => ⟨_, rfl, ?_⟩)
    exact k1 (by omega) rfl z2 (fr_t (fr_m (by decide) f1) (fr_m (by decide) f2)) (by rw [fr_fi f2 (by decide)]; exact e1)
  · cases r
    · exact absurd rfl e
    · rfl
/-- what the class knows gives the motions of its places -/
theorem exc_G {st : Nat → Nat} {g0 : Nat} (hd : jd w h false S) (hk : kdc K C M Z A z) (hs : shps K C Z A) (h24 : fb_ct S 64 ≤ 24) {z' : tq_S} (hx : exc w h false S K C M Z A P f st g0 z') : GLp w h S P f := by
  have hZ : ∀ k, k < K → 3 ≤ Z k := fun k hk' => (hk.2.2 k hk').2.2.1.2.1
  exact GL_of hd hs hk.2.1 (prs_plg hd hs h24 hZ hx.2.2.2.1) hx.2.2.2.1.2 hx.2.2.2.2.1
end RUL
