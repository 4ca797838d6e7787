/-! ===== unlike: the images of exact covers ===== -/
section IMC
variable {w h : Nat} {S : Nat → Bool} {P K : Nat} {f : Nat → plc} {M Z : Nat → Nat}
noncomputable def LL (S : Nat → Bool) (P : Nat) (f : Nat → plc) (K : Nat) (M : Nat → Nat) (j : Nat) : List Nat := pth (fb_ct S 64) P f 8 0 (mst K M) j
/-- whether a motion makes an exact cover of the j-th one -/
noncomputable def Vf (w h : Nat) (S : Nat → Bool) (P : Nat) (f : Nat → plc) (K : Nat) (M : Nat → Nat) (j m : Nat) : Bool := grB w h false S m && @decide (∀ a, a ∈ LL S P f K M j → ∃ q, imP w h S P f m a q) (Classical.propDecidable _)
theorem Vf_t {j m : Nat} : Vf w h S P f K M j m = true ↔ grB w h false S m = true ∧ ∀ a, a ∈ LL S P f K M j → ∃ q, imP w h S P f m a q := by
  unfold Vf
  rw [Bool.and_eq_true]
  constructor
  · rintro ⟨a, b⟩; exact ⟨a, (@decide_eq_true_iff _ (Classical.propDecidable _)).mp b⟩
  · rintro ⟨a, b⟩; exact ⟨a, (@decide_eq_true_iff _ (Classical.propDecidable _)).mpr b⟩
noncomputable def acN (w h : Nat) (S : Nat → Bool) (P : Nat) (f : Nat → plc) (K : Nat) (M : Nat → Nat) (m j : Nat) : Nat := @dite _ (∃ j', j' < exn (fb_ct S 64) P f K M ∧ ∀ q, q ∈ LL S P f K M j' ↔ ∃ a, a ∈ LL S P f K M j ∧ imP w h S P f m a q) (Classical.propDecidable _) (fun e => Classical.choose e) (fun _ => 0)
theorem grB_g (hd : jd w h false S) {m : Nat} (hg : grB w h false S m = true) : m < 8 ∧ gok w h S m = true := by
  unfold grB at hg
  simp only [Bool.or_eq_true, Bool.and_eq_true, decide_eq_true_eq] at hg
  rcases hg with e | e
  · rw [e]; exact ⟨by omega, gok_0 hd⟩
  · exact e.1
theorem grB_y {m : Nat} (hm : m < 8) (hg : gok w h S m = true) : grB w h false S m = true := by
  unfold grB
  rw [hg, decide_eq_true hm]; simp
theorem imP_1 (hpl : plg S Z P f) {m a q q' : Nat} (h1 : imP w h S P f m a q) (h2 : imP w h S P f m a q') : q = q' := hpl.2 q q' h1.1 h2.1 (by rw [h1.2.1, h2.2.1]) (by rw [h1.2.2, h2.2.2])
theorem imP_i (hd : jd w h false S) (hpl : plg S Z P f) {m a a' q : Nat} (hm : m < 8) (hg : gok w h S m = true) (ha : a < P) (ha' : a' < P) (h1 : imP w h S P f m a q) (h2 : imP w h S P f m a' q) : a = a' := hpl.2 a a' ha ha' (by rw [← h1.2.1, h2.2.1]) (img_i hd hm hg (hpl.1 a ha).2.1 (hpl.1 a' ha').2.1 (by rw [← h1.2.2, h2.2.2]))
theorem LL_cmp (hpl : plg S Z P f) (hn : fb_ct S 64 ≤ 24) {j : Nat} (hj : j < exn (fb_ct S 64) P f K M) : cmp (fb_ct S 64) P f 0 (mst K M) (fun i => decide (i ∈ LL S P f K M j)) := pth_cmp (fun p hp => ⟨(hpl.1 p hp).2.1, (hpl.1 p hp).2.2.1, (hpl.1 p hp).2.2.2.1, (hpl.1 p hp).2.2.2.2.2⟩) hn 8 0 _ j (Nat.two_pow_pos _) (by omega) hj
theorem LL_inj (hpl : plg S Z P f) (hn : fb_ct S 64 ≤ 24) {j j' : Nat} (hj : j < exn (fb_ct S 64) P f K M) (hj' : j' < exn (fb_ct S 64) P f K M) (he : ∀ i, i ∈ LL S P f K M j ↔ i ∈ LL S P f K M j') : j = j' := pth_inj (fun p hp => ⟨(hpl.1 p hp).2.1, (hpl.1 p hp).2.2.1, (hpl.1 p hp).2.2.2.1, (hpl.1 p hp).2.2.2.2.2⟩) hn 8 0 _ j j' (Nat.two_pow_pos _) (by omega) hj hj' he
theorem LL_P (hpl : plg S Z P f) (hn : fb_ct S 64 ≤ 24) {j a : Nat} (hj : j < exn (fb_ct S 64) P f K M) (ha : a ∈ LL S P f K M j) : a < P := ((LL_cmp hpl hn hj).1 a (decide_eq_true ha)).1
/-- the image is an exact cover -/
theorem im_cmp (hd : jd w h false S) (hpl : plg S Z P f) (hn : fb_ct S 64 ≤ 24) {j m : Nat} (hj : j < exn (fb_ct S 64) P f K M) (hm : m < 8) (hv : Vf w h S P f K M j m = true) : acN w h S P f K M m j < exn (fb_ct S 64) P f K M ∧ ∀ q, q ∈ LL S P f K M (acN w h S P f K M m j) ↔ ∃ a, a ∈ LL S P f K M j ∧ imP w h S P f m a q := by
  obtain ⟨v1, v2⟩ := Vf_t.mp hv
  obtain ⟨_, hg⟩ := grB_g hd v1
  have cj := LL_cmp hpl hn hj
  have ex : ∃ j', j' < exn (fb_ct S 64) P f K M ∧ ∀ q, q ∈ LL S P f K M j' ↔ ∃ a, a ∈ LL S P f K M j ∧ imP w h S P f m a q := by
    obtain ⟨X, hX⟩ : ∃ X : Nat → Bool, X = fun q => @decide (∃ a, a ∈ LL S P f K M j ∧ imP w h S P f m a q) (Classical.propDecidable _) := ⟨_, rfl⟩
    have Xt : ∀ q, X q = true ↔ ∃ a, a ∈ LL S P f K M j ∧ imP w h S P f m a q := fun q => by
      rw [hX]
      exact @decide_eq_true_iff _ (Classical.propDecidable _)
    have cX : cmp (fb_ct S 64) P f 0 (mst K M) X := by
      refine ⟨fun q hq => ?_, fun b hb _ => ?_, fun q q' hq hq' hne => ?_, fun k => ?_⟩
      · obtain ⟨a, a1, a2⟩ := (Xt q).mp hq
        exact ⟨a2.1, Nat.zero_and _⟩
      · obtain ⟨i1, i2, i3⟩ := minv_m ⟨m, hm⟩
        have gi := gok_inv hd hm hg
        have b0 := (mvx_lt hd gi hb).1
        obtain ⟨a, a1, a2⟩ := cj.2.1 _ b0 (Nat.zero_testBit _)
        obtain ⟨q, hq⟩ := v2 a (of_decide_eq_true a1)
        refine ⟨q, (Xt q).mpr ⟨a, of_decide_eq_true a1, hq⟩, ?_⟩
        rw [hq.2.2, img_t]
        refine ⟨_, b0, a2, ?_⟩
        rw [mvx_mul hd i3 hm gi hg hb, i2, mvx_0 hd hb]
      · obtain ⟨a, a1, a2⟩ := (Xt q).mp hq
        obtain ⟨a', a1', a2'⟩ := (Xt q').mp hq'
        have ne : a ≠ a' := fun e => hne (by rw [e] at a2; exact imP_1 hpl a2 a2')
        have d := cj.2.2.1 a a' (decide_eq_true a1) (decide_eq_true a1') ne
        rw [a2.2.2, a2'.2.2]
        refine and_0.mpr fun b u => ?_
        obtain ⟨x, x1, x2, x3⟩ := img_t.mp u.1
        obtain ⟨y, y1, y2, y3⟩ := img_t.mp u.2
        have : x = y := mvx_i hd hm hg x1 y1 (by rw [x3, y3])
        subst this
        exact and_0.mp d _ ⟨x2, y2⟩
      · have ch : ∀ q, ∃ a, X q = true → a ∈ LL S P f K M j ∧ imP w h S P f m a q := fun q => by
          by_cases u : X q = true
          · obtain ⟨a, ha⟩ := (Xt q).mp u
            exact ⟨a, fun _ => ha⟩
          · exact ⟨0, fun e => absurd e u⟩
        refine Nat.le_trans ?_ (cj.2.2.2 k)
        refine cinj (N := P) (g := fun q => Classical.choose (ch q)) (fun q hq e => ?_) (fun q q' hq hq' e e' ee => ?_)
        · rw [Bool.and_eq_true] at e
          have := Classical.choose_spec (ch q) e.1
          refine ⟨LL_P hpl hn hj this.1, ?_⟩
          show (decide (Classical.choose (ch q) ∈ LL S P f K M j) && decide ((f (Classical.choose (ch q))).2.1 = k)) = true
          rw [Bool.and_eq_true]
          exact ⟨decide_eq_true this.1, by rw [← this.2.2.1]; exact e.2⟩
        · rw [Bool.and_eq_true] at e e'
          have s1 := (Classical.choose_spec (ch q) e.1).2
          have s2 := (Classical.choose_spec (ch q') e'.1).2
          have ee : Classical.choose (ch q) = Classical.choose (ch q') := ee
          rw [ee] at s1
          exact imP_1 hpl s1 s2
    obtain ⟨j', j1, j2⟩ := cmp_rk (fun p hp => ⟨(hpl.1 p hp).2.1, (hpl.1 p hp).2.2.1, (hpl.1 p hp).2.2.2.1, (hpl.1 p hp).2.2.2.2.2⟩) hn 8 0 (mst K M) X (Nat.two_pow_pos _) (by omega) cX
    exact ⟨j', j1, fun q => by rw [← Xt]; exact (j2 q).symm⟩
  unfold acN
  rw [dif_pos ex]
  exact Classical.choose_spec ex
theorem imP_q {m a b x q s : Nat} (hd : jd w h false S) (ha : a < 8) (hb : b < 8) (ga : gok w h S a = true) (gb : gok w h S b = true) (h1 : imP w h S P f a x q) (h2 : imP w h S P f (mmul a b) x s) : imP w h S P f b q s := ⟨h2.1, by rw [h2.2.1, h1.2.1], by rw [h2.2.2, h1.2.2, img_mul hd ha hb ga gb]⟩
theorem mm_i2 : ∀ a b : Fin 8, mmul (minv a.val) (mmul a.val b.val) = b.val := by decide
theorem Vf_all (hd : jd w h false S) (hpl : plg S Z P f) (hn : fb_ct S 64 ≤ 24) {F : Nat → Bool} (Ft : ∀ j, j < exn (fb_ct S 64) P f K M → (F j = true ↔ ∀ m, m < 8 → Vf w h S P f K M j m = true → j ≤ acN w h S P f K M m j)) : fb_sm (fun j => 840 / fb_ct (Vf w h S P f K M j) 8 * fb_ct (fun m => Vf w h S P f K M j m && decide (acN w h S P f K M m j = j)) 8) (exn (fb_ct S 64) P f K M) = 840 * fb_ct F (exn (fb_ct S 64) P f K M) := by
  have id0 : ∀ a, a < P → imP w h S P f 0 a a := fun a ha => ⟨ha, rfl, (img_0 hd (hpl.1 a ha).2.1).symm⟩
  refine burn Ft (fun j hj => ?_) (fun j m hj hm hv => (im_cmp hd hpl hn hj hm hv).1) (fun j a b hj ha hb hv => ?_) (fun j a b hj ha hb hv hv2 => ?_)
  · have v0 : Vf w h S P f K M j 0 = true := Vf_t.mpr ⟨grB_y (by omega) (gok_0 hd), fun a m => ⟨a, id0 a (LL_P hpl hn hj m)⟩⟩
    refine ⟨v0, ?_⟩
    obtain ⟨a1, a2⟩ := im_cmp hd hpl hn hj (by omega) v0
    refine LL_inj hpl hn a1 hj (fun i => ?_)
    rw [a2]
    constructor
    · rintro ⟨a, m, e⟩
      rw [imP_1 hpl e (id0 a (LL_P hpl hn hj m))]; exact m
    · intro m
      exact ⟨i, m, id0 i (LL_P hpl hn hj m)⟩
  · obtain ⟨a1, a2⟩ := im_cmp hd hpl hn hj ha hv
    obtain ⟨v1, v2⟩ := Vf_t.mp hv
    obtain ⟨_, ga⟩ := grB_g hd v1
    have iff : Vf w h S P f K M (acN w h S P f K M a j) b = true ↔ Vf w h S P f K M j (mmul a b) = true := by
      rw [Vf_t, Vf_t]
      constructor
      · rintro ⟨g1, g2⟩
        obtain ⟨_, gb⟩ := grB_g hd g1
        refine ⟨grB_y mmul_lt (gok_mul hd ha hb ga gb), fun x mx => ?_⟩
        obtain ⟨q, hq⟩ := v2 x mx
        obtain ⟨s, hs⟩ := g2 q ((a2 q).mpr ⟨x, mx, hq⟩)
        exact ⟨s, imP_mul hd ha hb ga gb hq hs⟩
      · rintro ⟨g1, g2⟩
        obtain ⟨_, gm⟩ := grB_g hd g1
        have gb : gok w h S b = true := by
          have := gok_mul hd (minv_m ⟨a, ha⟩).2.2 mmul_lt (gok_inv hd ha ga) gm
          rw [mm_i2 ⟨a, ha⟩ ⟨b, hb⟩] at this
          exact this
        refine ⟨grB_y hb gb, fun q mq => ?_⟩
        obtain ⟨x, mx, hq⟩ := (a2 q).mp mq
        obtain ⟨s, hs⟩ := g2 x mx
        exact ⟨s, imP_q (m := 0) hd ha hb ga gb hq hs⟩
    cases e1 : Vf w h S P f K M (acN w h S P f K M a j) b <;> cases e2 : Vf w h S P f K M j (mmul a b)
    · rfl
    · rw [iff.mpr e2] at e1; cases e1
    · rw [iff.mp e1] at e2; cases e2
    · rfl
  · obtain ⟨a1, a2⟩ := im_cmp hd hpl hn hj ha hv
    obtain ⟨b1, b2⟩ := im_cmp hd hpl hn a1 hb hv2
    obtain ⟨v1, v2⟩ := Vf_t.mp hv
    obtain ⟨_, ga⟩ := grB_g hd v1
    obtain ⟨w1, w2⟩ := Vf_t.mp hv2
    obtain ⟨_, gb⟩ := grB_g hd w1
    have vm : Vf w h S P f K M j (mmul a b) = true := Vf_t.mpr ⟨grB_y mmul_lt (gok_mul hd ha hb ga gb), fun x mx => by
      obtain ⟨q, hq⟩ := v2 x mx
      obtain ⟨s, hs⟩ := w2 q ((a2 q).mpr ⟨x, mx, hq⟩)
      exact ⟨s, imP_mul hd ha hb ga gb hq hs⟩⟩
    obtain ⟨c1, c2⟩ := im_cmp hd hpl hn hj mmul_lt vm
    refine LL_inj hpl hn b1 c1 (fun i => ?_)
    rw [b2, c2]
    constructor
    · rintro ⟨q, mq, hq⟩
      obtain ⟨x, mx, hx⟩ := (a2 q).mp mq
      exact ⟨x, mx, imP_mul hd ha hb ga gb hx hq⟩
    · rintro ⟨x, mx, hx⟩
      obtain ⟨q, hq⟩ := v2 x mx
      exact ⟨q, (a2 q).mpr ⟨x, mx, hq⟩, imP_q (m := 0) hd ha hb ga gb hq hx⟩
/-- left as it is: the same number -/
theorem fix_ac (hd : jd w h false S) (hpl : plg S Z P f) (hn : fb_ct S 64 ≤ 24) {j m : Nat} (hj : j < exn (fb_ct S 64) P f K M) (hm : m < 8) (hg : gok w h S m = true) : fixd w h S P f m (LL S P f K M j) ↔ Vf w h S P f K M j m = true ∧ acN w h S P f K M m j = j := by
  have cj := LL_cmp hpl hn hj
  constructor
  · intro hf
    have v : Vf w h S P f K M j m = true := Vf_t.mpr ⟨grB_y hm hg, fun a ma => by
      obtain ⟨b, _, e⟩ := hf a ma
      exact ⟨b, (imO_P hpl).mp e⟩⟩
    obtain ⟨a1, a2⟩ := im_cmp hd hpl hn hj hm v
    have cim := LL_cmp hpl hn a1
    refine ⟨v, LL_inj hpl hn a1 hj (fun q => ?_)⟩
    have sub : ∀ q, q ∈ LL S P f K M (acN w h S P f K M m j) → q ∈ LL S P f K M j := fun q mq => by
      obtain ⟨a, ma, e⟩ := (a2 q).mp mq
      obtain ⟨b, mb, e2⟩ := hf a ma
      rw [imP_1 hpl e ((imO_P hpl).mp e2)]; exact mb
    refine ⟨sub q, fun mq => ?_⟩
    have qP := LL_P hpl hn hj mq
    obtain ⟨b1, b2, b3, b4, b5, b6⟩ := hpl.1 q qP
    obtain ⟨q', x1, x2⟩ := cim.2.1 _ (tb_in b2 b3) (Nat.zero_testBit _)
    have mq' := sub q' (of_decide_eq_true x1)
    by_cases e : q = q'
    · rw [e]; exact of_decide_eq_true x1
    · exact absurd ⟨b3, x2⟩ (and_0.mp (cj.2.2.1 q q' (decide_eq_true mq) (decide_eq_true mq') e) _)
  · rintro ⟨v, e⟩ a ma
    obtain ⟨v1, v2⟩ := Vf_t.mp v
    obtain ⟨q, hq⟩ := v2 a ma
    obtain ⟨a1, a2⟩ := im_cmp hd hpl hn hj hm v
    rw [e] at a2
    exact ⟨q, (a2 q).mpr ⟨a, ma, hq⟩, (imO_P hpl).mpr hq⟩
end IMC
