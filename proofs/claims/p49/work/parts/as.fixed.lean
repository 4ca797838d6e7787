section FIX
variable {w h : Nat} {r : Bool} {S : Nat → Bool} {P K : Nat} {f : Nat → plc} {Z : Nat → Nat} {mo : Nat}
def meq (K : Nat) (Z : Nat → Nat) (n c : Nat) (l1 l2 : Nat → Nat) : Prop := ∀ k, k < K → min (l1 k) (rmF Z n c k) = min (l2 k) (rmF Z n c k)
theorem meq_s (hpl : plg S Z P f) (hkK : ∀ p, p < P → (f p).2.1 < K) (hn : fb_ct S 64 ≤ 24) {c i : Nat} {l1 l2 : Nat → Nat} (hc : c < 2 ^ fb_ct S 64) (hi : i < P) (dis : c &&& (f i).2.2.1 = 0) (hl : meq K Z (fb_ct S 64) c l1 l2) : (l1 (f i).2.1 = 0 ↔ l2 (f i).2.1 = 0) ∧ meq K Z (fb_ct S 64) (c ||| (f i).2.2.1) (lsub l1 (f i).2.1 1) (lsub l2 (f i).2.1 1) := by
  obtain ⟨b1, b2, b3, b4, b5, b6⟩ := hpl.1 i hi
  have kK := hkK i hi
  have po := pop_or dis
  have co : c ||| (f i).2.2.1 < 2 ^ fb_ct S 64 := Nat.or_lt_two_pow hc b2
  have cp := pop_le co hn
  have r1 : 1 ≤ rmF Z (fb_ct S 64) c (f i).2.1 := by
    unfold rmF
    rw [← b5]
    exact (Nat.le_div_iff_mul_le (by omega)).mpr (by omega)
  have lk := hl _ kK
  refine ⟨by omega, fun k hk => ?_⟩
  have hk1 := hl k hk
  have mono : rmF Z (fb_ct S 64) (c ||| (f i).2.2.1) k ≤ rmF Z (fb_ct S 64) c k := by
    unfold rmF
    exact Nat.div_le_div_right (by omega)
  unfold lsub
  by_cases kk : k = (f i).2.1
  · rw [if_pos kk, if_pos kk]
    have dd : rmF Z (fb_ct S 64) c k = rmF Z (fb_ct S 64) (c ||| (f i).2.2.1) k + 1 := by
      unfold rmF
      rw [po, kk, b5, Nat.div_eq_sub_div (by omega) (by omega), Nat.sub_sub]
    omega
  · rw [if_neg kk, if_neg kk]
    omega
theorem wll_D (hpl : plg S Z P f) (hkK : ∀ p, p < P → (f p).2.1 < K) (hn : fb_ct S 64 ≤ 24) {i0 : Nat} : ∀ (t q c g : Nat) (l1 l2 : Nat → Nat), q < P → c < 2 ^ fb_ct S 64 → meq K Z (fb_ct S 64) c l1 l2 → (wll w h S P f mo i0 t q c g l1 = none ∧ wll w h S P f mo i0 t q c g l2 = none) ∨ ∃ c' g' l1' l2', wll w h S P f mo i0 t q c g l1 = some (c', g', l1') ∧ wll w h S P f mo i0 t q c g l2 = some (c', g', l2') ∧ meq K Z (fb_ct S 64) c' l1' l2' := by
  intro t
  induction t with
  | zero => intro q c g l1 l2 _ _ hl; exact Or.inr ⟨c, g, l1, l2, rfl, rfl, hl⟩
  | succ t ih =>
    intro q c g l1 l2 hq hc hl
    rw [wll_s, wll_s]
    by_cases dis : c &&& (f q).2.2.1 = 0
    rotate_left
    · rw [if_pos (Or.inl dis), if_pos (Or.inl dis)]; exact Or.inl ⟨rfl, rfl⟩
    obtain ⟨m1, m2⟩ := meq_s hpl hkK hn hc hq dis hl
    by_cases l0 : l1 (f q).2.1 = 0
    · rw [if_pos (Or.inr l0), if_pos (Or.inr (m1.mp l0))]; exact Or.inl ⟨rfl, rfl⟩
    · rw [if_neg (fun u => u.elim (fun a => a dis) l0), if_neg (fun u => u.elim (fun a => a dis) (fun a => l0 (m1.mpr a)))]
      cases im : imO w h S P f mo q with
      | none => exact Or.inl ⟨rfl, rfl⟩
      | some q' =>
        dsimp only
        by_cases v : q' = i0
        · rw [if_pos v, if_pos v]; exact Or.inr ⟨_, _, _, _, rfl, rfl, m2⟩
        · rw [if_neg v, if_neg v]
          exact ih q' _ _ _ _ (imO_s im).1 (Nat.or_lt_two_pow hc (hpl.1 q hq).2.1) m2
/-- the motion leaves the places of L as they are -/
def fixd (w h : Nat) (S : Nat → Bool) (P : Nat) (f : Nat → plc) (mo : Nat) (L : List Nat) : Prop := ∀ a, a ∈ L → ∃ b, b ∈ L ∧ imO w h S P f mo a = some b
def gAnd (f : Nat → plc) : Nat → List Nat → Nat
  | g, [] => g
  | g, a :: L => gAnd f (g &&& (f a).2.2.2) L
theorem gAnd_t : ∀ (L : List Nat) (g b : Nat), (gAnd f g L).testBit b = true ↔ g.testBit b = true ∧ ∀ a, a ∈ L → (f a).2.2.2.testBit b = true
  | [], g, b => ⟨fun e => ⟨e, fun a m => by cases m⟩, fun e => e.1⟩
  | a :: L, g, b => by
    show (gAnd f (g &&& (f a).2.2.2) L).testBit b = true ↔ _
    rw [gAnd_t L, Nat.testBit_and, Bool.and_eq_true]
    constructor
    · rintro ⟨⟨y1, y2⟩, y3⟩
      refine ⟨y1, fun q m => ?_⟩
      rcases List.mem_cons.mp m with z | z
      · rw [z]; exact y2
      · exact y3 q z
    · rintro ⟨y1, y2⟩
      exact ⟨⟨y1, y2 a (List.mem_cons_self ..)⟩, fun q m => y2 q (List.mem_cons_of_mem _ m)⟩
def WG (g : Nat) : Nat := if pop8 g = 0 then 1 else 840 / pop8 g
noncomputable def fxv (w h : Nat) (S : Nat → Bool) (P : Nat) (f : Nat → plc) (mo g : Nat) (L : List Nat) : Nat := @ite _ (fixd w h S P f mo L) (Classical.propDecidable _) (WG (gAnd f g L)) 0
theorem fxv_y {g : Nat} {L : List Nat} (h1 : fixd w h S P f mo L) : fxv w h S P f mo g L = WG (gAnd f g L) := by
  unfold fxv
  exact @if_pos _ (Classical.propDecidable _) h1 _ _ _
theorem fxv_n {g : Nat} {L : List Nat} (h1 : ¬ fixd w h S P f mo L) : fxv w h S P f mo g L = 0 := by
  unfold fxv
  exact @if_neg _ (Classical.propDecidable _) h1 _ _ _
theorem sm_pre (F τ : Nat → Nat) : ∀ P, fb_sm F (fb_sm τ P) = fb_sm (fun i => fb_sm (fun j => F (fb_sm τ i + j)) (τ i)) P
  | 0 => rfl
  | P + 1 => by rw [fb_sm_succ τ P, fb_sm_split, sm_pre F τ P, fb_sm_succ]
theorem fx (hd : jd w h r S) (hpl : plg S Z P f) (hkK : ∀ p, p < P → (f p).2.1 < K) (hK6 : K ≤ 6) (hn : fb_ct S 64 ≤ 24) (hm : mo < 8) (hg : gok w h S mo = true) : ∀ (t e : Nat) (l : Nat → Nat), GG w h S e → e / 2 ^ 56 = mo → img w h S mo (e % 2 ^ 24) = e % 2 ^ 24 → meq K Z (fb_ct S 64) (e % 2 ^ 24) (dcl e) l → fb_ct S 64 ≤ pop (e % 2 ^ 24) + 3 * t → sr (fb_ct S 64) P (fun i => (f i).1) (TT w h S K Z P f) WW t e = fb_sm (fun j => fxv w h S P f mo (e / 2 ^ 24 % 2 ^ 8) (pth (fb_ct S 64) P f t (e % 2 ^ 24) l j)) (cnx (fb_ct S 64) P f t (e % 2 ^ 24) l) := by
  have hp : plh (fb_ct S 64) P f := fun p hp => ⟨(hpl.1 p hp).2.1, (hpl.1 p hp).2.2.1, (hpl.1 p hp).2.2.2.1, (hpl.1 p hp).2.2.2.2.2⟩
  have inj : ∀ a b q', a < P → b < P → imO w h S P f mo a = some q' → imO w h S P f mo b = some q' → a = b := fun a b q' ha hb e1 e2 => by
    obtain ⟨_, k1, m1⟩ := (imO_P hpl).mp e1
    obtain ⟨_, k2, m2⟩ := (imO_P hpl).mp e2
    exact hpl.2 a b ha hb (by rw [← k1, k2]) (img_i hd hm hg (hpl.1 a ha).2.1 (hpl.1 b hb).2.1 (by rw [← m1, m2]))
  have full : ∀ t e l, fb_ct S 64 ≤ tro (e % 2 ^ 24) → sr (fb_ct S 64) P (fun i => (f i).1) (TT w h S K Z P f) WW t e = fb_sm (fun j => fxv w h S P f mo (e / 2 ^ 24 % 2 ^ 8) (pth (fb_ct S 64) P f t (e % 2 ^ 24) l j)) (cnx (fb_ct S 64) P f t (e % 2 ^ 24) l) := by
    intro t e l u
    rw [cnx_1 u t]
    have s : sr (fb_ct S 64) P (fun i => (f i).1) (TT w h S K Z P f) WW t e = WW e := by
      cases t with
      | zero => exact if_pos u
      | succ t => exact if_pos u
    rw [s]
    show WW e = 0 + fxv w h S P f mo (e / 2 ^ 24 % 2 ^ 8) (pth (fb_ct S 64) P f t (e % 2 ^ 24) l 0)
    rw [pth_0 u, fxv_y (fun a m => by cases m), Nat.zero_add]
    rfl
  have tg := TT_g (w := w) (h := h) (K := K) hpl hn
  intro t
  induction t with
  | zero =>
    intro e l he _ _ _ ht
    exact full 0 e l (by have := pop_full he.2.1 hn (by omega); omega)
  | succ t ih =>
    intro e l he hmo hI hl ht
    by_cases u : fb_ct S 64 ≤ tro (e % 2 ^ 24)
    · exact full _ e l u
    have un : sr (fb_ct S 64) P (fun i => (f i).1) (TT w h S K Z P f) WW (t + 1) e = fb_sm (fun i => if (f i).1 = tro (e % 2 ^ 24) then (match TT w h S K Z P f e i with | none => 0 | some e' => sr (fb_ct S 64) P (fun i => (f i).1) (TT w h S K Z P f) WW t e') else 0) P := if_neg u
    rw [un, cnx_s, if_neg u, sm_pre]
    refine fb_sm_cong (fun i hi => ?_)
    have hc := he.2.1
    obtain ⟨c, hcc⟩ : ∃ c, c = e % 2 ^ 24 := ⟨_, rfl⟩
    obtain ⟨g, hgg⟩ : ∃ g, g = e / 2 ^ 24 % 2 ^ 8 := ⟨_, rfl⟩
    rw [← hcc] at hI hl ht hc u ⊢
    rw [← hgg]
    have te : TT w h S K Z P f e i = (match wll w h S P f mo i 4 i c g (dcl e) with
      | none => none
      | some x => some (encN x.1 x.2.1 (bndl K Z (fb_ct S 64) x.1 x.2.2) mo)) := by
      unfold TT
      rw [hmo, ← hcc, ← hgg, wlp_l hd hpl 4 i c g (dcl e) hi (Or.inr rfl)]
      rfl
    by_cases cond : (f i).1 = tro c ∧ c &&& (f i).2.2.1 = 0 ∧ l (f i).2.1 ≠ 0
    rotate_left
    · have t0 : tm (fb_ct S 64) P f t c l i = 0 := by unfold tm; rw [if_neg cond]
      rw [t0]
      show _ = 0
      by_cases fi : (f i).1 = tro c
      · rw [if_pos fi, te]
        have wn : wll w h S P f mo i 4 i c g (dcl e) = none := by
          rw [wll_s]
          by_cases dis : c &&& (f i).2.2.1 = 0
          · have l0 : l (f i).2.1 = 0 := Classical.byContradiction fun a => cond ⟨fi, dis, a⟩
            rw [if_pos (Or.inr ((meq_s hpl hkK hn hc hi dis hl).1.mpr l0))]
          · rw [if_pos (Or.inl dis)]
        rw [wn]
      · rw [if_neg fi]
    obtain ⟨fi, dis, l0⟩ := cond
    obtain ⟨p1, p2, p3, p4⟩ := hp i hi
    have po := pop_or dis
    have co := Nat.or_lt_two_pow hc p1
    have tme : tm (fb_ct S 64) P f t c l i = cnx (fb_ct S 64) P f t (c ||| (f i).2.2.1) (lsub l (f i).2.1 1) := by
      unfold tm
      rw [if_pos ⟨fi, dis, l0⟩]
    have inner : fb_sm (fun j => fxv w h S P f mo g (pth (fb_ct S 64) P f (t + 1) c l (fb_sm (tm (fb_ct S 64) P f t c l) i + j))) (tm (fb_ct S 64) P f t c l i) = fb_sm (fun j => fxv w h S P f mo g (i :: pth (fb_ct S 64) P f t (c ||| (f i).2.2.1) (lsub l (f i).2.1 1) j)) (cnx (fb_ct S 64) P f t (c ||| (f i).2.2.1) (lsub l (f i).2.1 1)) := by
      rw [← tme]
      refine fb_sm_cong (fun j hj => ?_)
      rw [pth_s u hi (Nat.le_add_right _ _) (by rw [fb_sm_succ]; omega), show fb_sm (tm (fb_ct S 64) P f t c l) i + j - fb_sm (tm (fb_ct S 64) P f t c l) i = j by omega]
    rw [inner, if_pos fi, te]
    -- a cover that begins with this place
    have setL : ∀ j, j < cnx (fb_ct S 64) P f t (c ||| (f i).2.2.1) (lsub l (f i).2.1 1) → cmp (fb_ct S 64) P f c l (fun q => decide (q ∈ i :: pth (fb_ct S 64) P f t (c ||| (f i).2.2.1) (lsub l (f i).2.1 1) j)) := fun j hj => cmp_x (fun q => by
      by_cases v : q = i
      · simp [v]
      · simp [v]) (cmp_in hi dis l0 (pth_cmp hp hn t _ _ j co (by omega) hj))
    have hasO : ∀ j, j < cnx (fb_ct S 64) P f t (c ||| (f i).2.2.1) (lsub l (f i).2.1 1) → fixd w h S P f mo (i :: pth (fb_ct S 64) P f t (c ||| (f i).2.2.1) (lsub l (f i).2.1 1) j) → wll w h S P f mo i 4 i c g l ≠ none ∧ ∀ a, a ∈ wlO w h S P f mo i 4 i → a ∈ i :: pth (fb_ct S 64) P f t (c ||| (f i).2.2.1) (lsub l (f i).2.1 1) j := fun j hj hf => by
      have sl := setL j hj
      have := wll_B (i0 := i) hd hpl hm hg (X := fun q => decide (q ∈ i :: pth (fb_ct S 64) P f t (c ||| (f i).2.2.1) (lsub l (f i).2.1 1) j)) (fun a ha => by
        obtain ⟨b, b1, b2⟩ := hf a (of_decide_eq_true ha)
        exact ⟨b, decide_eq_true b1, b2⟩) (fun a ha => (sl.1 a ha).1) 4 i c g l (fun _ => false) (cmp_x (fun q => by simp) sl) (decide_eq_true (List.mem_cons_self ..)) rfl (fun a ha => by cases ha) (Or.inl rfl) (fun a ha => by cases ha)
      exact ⟨this.1, fun a m => of_decide_eq_true (this.2 a m)⟩
    rcases wll_D (w := w) (h := h) (mo := mo) (i0 := i) hpl hkK hn 4 i c g (dcl e) l hi hc hl with ⟨w1, w2⟩ | ⟨c', g', l1, l2, w1, w2, w3⟩
    · rw [w1]
      show 0 = _
      have : fb_sm (fun j => fxv w h S P f mo g (i :: pth (fb_ct S 64) P f t (c ||| (f i).2.2.1) (lsub l (f i).2.1 1) j)) (cnx (fb_ct S 64) P f t (c ||| (f i).2.2.1) (lsub l (f i).2.1 1)) = fb_sm (fun _ => 0) (cnx (fb_ct S 64) P f t (c ||| (f i).2.2.1) (lsub l (f i).2.1 1)) := fb_sm_cong (fun j hj => fxv_n (fun hf => (hasO j hj hf).1 w2))
      rw [this, fb_sm_0]
    · have tes := te
      rw [w1] at tes ⊢
      dsimp only at tes ⊢
      obtain ⟨e', he'⟩ : ∃ e', e' = encN c' g' (bndl K Z (fb_ct S 64) c' l1) mo := ⟨_, rfl⟩
      rw [← he'] at tes ⊢
      obtain ⟨G1, G2⟩ := tg.2 e i e' he hi tes
      rw [← hcc] at G2
      obtain ⟨A1, A2, A3, A4, A5⟩ := wll_A hpl 4 i c g l _ hi w2
      obtain ⟨C1, C2, C3⟩ := wlO_C hd hpl hm hg hi w2
      dsimp only at A2 A3 A4 A5
      generalize wlO w h S P f mo i 4 i = O at A1 A2 A3 A4 A5 C1 C2 C3 hasO
      have c'n : c' < 2 ^ fb_ct S 64 := Nat.lt_pow_two_of_testBit _ fun b hb => by
        cases y : c'.testBit b
        · rfl
        · rcases (A2 b).mp y with z | ⟨a, a1, a2⟩
          · have := tb_in hc z; omega
          · have := tb_in (hp a (A1 a a1).1).1 a2; omega
      have g'8 : g' < 2 ^ 8 := Nat.lt_pow_two_of_testBit _ fun b hb => by
        cases y : g'.testBit b
        · rfl
        · have := tb_in (show g < 2 ^ 8 by rw [hgg]; exact Nat.mod_lt _ (by decide)) ((A3 b).mp y).1
          omega
      have c24 : c' < 2 ^ 24 := Nat.lt_of_lt_of_le c'n (Nat.pow_le_pow_right (by decide) hn)
      have l15' : l15 l1 := (wlp_g (w := w) (h := h) (mo := mo) (i0 := i) hpl hn 4 i c g (dcl e) (c', g', l1) hi hc (by rw [hgg]; exact Nat.mod_lt _ (by decide)) (dcl_15 e) (by rw [wlp_l hd hpl 4 i c g (dcl e) hi (Or.inr rfl)]; exact w1)).2.2.1
      have b15 := bndl_15 (K := K) (Z := Z) (n := fb_ct S 64) (c := c') l15'
      have ec : e' % 2 ^ 24 = c' := by rw [he']; exact encN_c c24
      have em : e' / 2 ^ 56 = mo := by rw [he']; exact encN_m c24 g'8 b15
      have eg : e' / 2 ^ 24 % 2 ^ 8 = g' := by
        have := lfs_lt b15
        rw [he']
        unfold encN
        omega
      have nx := ih e' l2 G1 em (by
        rw [ec]
        refine nat_x fun b => ?_
        rw [img_t, A2]
        constructor
        · rintro ⟨j, j1, j2, j3⟩
          rcases (A2 j).mp j2 with z | ⟨a, a1, a2⟩
          · refine Or.inl ?_
            rw [← hI]
            exact img_t.mpr ⟨j, j1, z, j3⟩
          · obtain ⟨q, q1, q2⟩ := C1 a a1
            refine Or.inr ⟨q, q1, ?_⟩
            rw [((imO_P hpl).mp q2).2.2]
            exact img_t.mpr ⟨j, j1, a2, j3⟩
        · rintro (z | ⟨a, a1, a2⟩)
          · rw [← hI] at z
            obtain ⟨j, j1, j2, j3⟩ := img_t.mp z
            exact ⟨j, j1, (A2 j).mpr (Or.inl j2), j3⟩
          · obtain ⟨q, q1, q2⟩ := C2 a a1
            rw [((imO_P hpl).mp q2).2.2] at a2
            obtain ⟨j, j1, j2, j3⟩ := img_t.mp a2
            exact ⟨j, j1, (A2 j).mpr (Or.inr ⟨q, q1, j2⟩), j3⟩) (fun k hk => by
        have dk : dcl e' k = bndl K Z (fb_ct S 64) c' l1 k := by
          unfold dcl
          rw [he']
          exact encN_l c24 g'8 b15 (by omega)
        have := w3 k hk
        rw [ec, dk]
        unfold bndl
        rw [if_pos hk]
        omega) (by omega)
      rw [nx, ec, eg]
      have fit' : fb_ct S 64 ≤ pop c' + 3 * t := by rw [← ec]; omega
      obtain ⟨N', hN'⟩ : ∃ N', N' = cnx (fb_ct S 64) P f t (c ||| (f i).2.2.1) (lsub l (f i).2.1 1) := ⟨_, rfl⟩
      rw [← hN'] at setL hasO ⊢
      -- to each cover of the rest belongs one with the orbit
      have notO : ∀ j, j < cnx (fb_ct S 64) P f t c' l2 → ∀ a, a ∈ pth (fb_ct S 64) P f t c' l2 j → a ∉ O := fun j hj a m mo' => by
        have d := ((pth_cmp hp hn t c' l2 j c'n fit' hj).1 a (decide_eq_true m)).2
        obtain ⟨_, q2, _, _⟩ := hp a (A1 a mo').1
        exact and_0.mp d _ ⟨(A2 _).mpr (Or.inr ⟨a, mo', q2⟩), q2⟩
      have toD : ∀ j, ∃ d, j < cnx (fb_ct S 64) P f t c' l2 → d < N' ∧ ∀ a, a ∈ i :: pth (fb_ct S 64) P f t (c ||| (f i).2.2.1) (lsub l (f i).2.1 1) d ↔ a ∈ pth (fb_ct S 64) P f t c' l2 j ∨ a ∈ O := fun j => by
        by_cases hj : j < cnx (fb_ct S 64) P f t c' l2
        · have cm := A4 _ (pth_cmp hp hn t c' l2 j c'n fit' hj)
          have rm := cmp_rm hp cm (i := i) (by rw [decide_eq_true C3, Bool.or_true])
          obtain ⟨d, d1, d2⟩ := cmp_rk hp hn t _ _ _ co (by omega) rm
          refine ⟨d, fun _ => ⟨by rw [hN']; exact d1, fun a => ?_⟩⟩
          rw [List.mem_cons, ← d2]
          simp only [Bool.and_eq_true, Bool.or_eq_true, decide_eq_true_eq, Bool.not_eq_true', decide_eq_false_iff_not]
          constructor
          · rintro (y | y)
            · rw [y]; exact Or.inr C3
            · exact y.1
          · intro y
            by_cases z : a = i
            · exact Or.inl z
            · exact Or.inr ⟨y, z⟩
        · exact ⟨0, fun e => absurd e hj⟩
      refine ((sm_re (g := fun j => fxv w h S P f mo g (i :: pth (fb_ct S 64) P f t (c ||| (f i).2.2.1) (lsub l (f i).2.1 1) j)) (D := fun j => Classical.choose (toD j)) (n := cnx (fb_ct S 64) P f t c' l2) (M := N') (fun j hj => (Classical.choose_spec (toD j) hj).1) (fun j j' hj hj' ee => ?_) (fun d hd' hne => ?_)).trans (fb_sm_cong (fun j hj => ?_))).symm
      · have s1 := (Classical.choose_spec (toD j) hj).2
        have s2 := (Classical.choose_spec (toD j') hj').2
        have ee : Classical.choose (toD j) = Classical.choose (toD j') := ee
        rw [ee] at s1
        refine pth_inj hp hn t c' l2 j j' c'n fit' hj hj' (fun a => ?_)
        have q1 := s1 a
        have q2 := s2 a
        constructor
        · intro m
          exact (q2.mp (q1.mpr (Or.inl m))).resolve_right (notO j hj a m)
        · intro m
          exact (q1.mp (q2.mpr (Or.inl m))).resolve_right (notO j' hj' a m)
      · have hf : fixd w h S P f mo (i :: pth (fb_ct S 64) P f t (c ||| (f i).2.2.1) (lsub l (f i).2.1 1) d) := Classical.byContradiction fun hf => hne (fxv_n hf)
        have O1 := (hasO d hd' hf).2
        have cm := A5 _ (setL d hd') (fun a m => decide_eq_true (O1 a m))
        obtain ⟨j, j1, j2⟩ := cmp_rk hp hn t _ _ _ c'n fit' cm
        refine ⟨j, j1, ?_⟩
        obtain ⟨s0, s1⟩ := Classical.choose_spec (toD j) j1
        have hd2 := Nat.lt_of_lt_of_eq hd' hN'
        have s02 := Nat.lt_of_lt_of_eq s0 hN'
        refine pth_inj hp hn t _ _ d (Classical.choose (toD j)) co (by omega) hd2 s02 (fun a => ?_)
        have notI : ∀ d, d < cnx (fb_ct S 64) P f t (c ||| (f i).2.2.1) (lsub l (f i).2.1 1) → i ∉ pth (fb_ct S 64) P f t (c ||| (f i).2.2.1) (lsub l (f i).2.1 1) d := fun d hd m => by
          have := (pth_cmp hp hn t _ _ d co (by omega) hd).1 i (decide_eq_true m)
          exact and_0.mp this.2 _ ⟨by rw [Nat.testBit_or, p2, Bool.or_true], p2⟩
        have q1 := s1 a
        have q2 := j2 a
        simp only [Bool.and_eq_true, decide_eq_true_eq, Bool.not_eq_true', decide_eq_false_iff_not] at q2
        rw [List.mem_cons] at q1 q2
        by_cases z : a = i
        · rw [z]
          exact ⟨fun m => absurd m (notI _ hd2), fun m => absurd m (notI _ s02)⟩
        · constructor
          · intro m
            refine (q1.mpr ?_).resolve_left z
            by_cases y : a ∈ O
            · exact Or.inr y
            · exact Or.inl (q2.mp ⟨Or.inr m, y⟩)
          · intro m
            rcases q1.mp (Or.inr m) with y | y
            · exact (q2.mpr y).1.resolve_left z
            · exact (List.mem_cons.mp (O1 a y)).resolve_left z
      · obtain ⟨s0, s1⟩ := Classical.choose_spec (toD j) hj
        have ga : gAnd f g (i :: pth (fb_ct S 64) P f t (c ||| (f i).2.2.1) (lsub l (f i).2.1 1) (Classical.choose (toD j))) = gAnd f g' (pth (fb_ct S 64) P f t c' l2 j) := nat_x fun b => by
          rw [gAnd_t, gAnd_t, A3]
          constructor
          · rintro ⟨y1, y2⟩
            exact ⟨⟨y1, fun a m => y2 a ((s1 a).mpr (Or.inr m))⟩, fun a m => y2 a ((s1 a).mpr (Or.inl m))⟩
          · rintro ⟨⟨y1, y2⟩, y3⟩
            exact ⟨y1, fun a m => ((s1 a).mp m).elim (y3 a) (y2 a)⟩
        have fe : fixd w h S P f mo (i :: pth (fb_ct S 64) P f t (c ||| (f i).2.2.1) (lsub l (f i).2.1 1) (Classical.choose (toD j))) ↔ fixd w h S P f mo (pth (fb_ct S 64) P f t c' l2 j) := by
          have yP : ∀ a, a ∈ pth (fb_ct S 64) P f t c' l2 j → a < P := fun a m => ((pth_cmp hp hn t c' l2 j c'n fit' hj).1 a (decide_eq_true m)).1
          constructor
          · intro hf a m
            obtain ⟨b, b1, b2⟩ := hf a ((s1 a).mpr (Or.inl m))
            refine ⟨b, ?_, b2⟩
            rcases (s1 b).mp b1 with y | y
            · exact y
            · obtain ⟨a', a1, a2⟩ := C2 b y
              have := inj a a' b (yP a m) (A1 a' a1).1 b2 a2
              rw [this] at m
              exact absurd a1 (notO j hj a' m)
          · intro hf a m
            rcases (s1 a).mp m with y | y
            · obtain ⟨b, b1, b2⟩ := hf a y
              exact ⟨b, (s1 b).mpr (Or.inl b1), b2⟩
            · obtain ⟨b, b1, b2⟩ := C1 a y
              exact ⟨b, (s1 b).mpr (Or.inr b1), b2⟩
        by_cases hf : fixd w h S P f mo (pth (fb_ct S 64) P f t c' l2 j)
        · rw [fxv_y (fe.mpr hf), fxv_y hf, ga]
        · rw [fxv_n (fun u => hf (fe.mp u)), fxv_n hf]
end FIX
